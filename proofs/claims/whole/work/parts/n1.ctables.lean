/-! FREEZING: tables and head, the class -/
/-- the head: what is told before, and where the rows are -/
def hdA (B lg op wh nL nF nI rr : Int) : List Int := leL 1936814952 4 ++ leL nL 4 ++ leL wh 4 ++ leL B 4 ++ leL nF 4 ++ leL 1 2 ++ leL lg 2 ++ leL (flN op) 2 ++ leL nI 2 ++ leL 4 2 ++ leL 0 2 ++ leL rr 8
def hdZ (H : List Int) (us il ia la fl el : Int) : List Int := H ++ leL us 8 ++ leL il 8 ++ leL (-1) 8 ++ leL ia 8 ++ leL la 8 ++ leL fl 8 ++ leL el 8
theorem hdA_len (B lg op wh nL nF nI rr : Int) : (hdA B lg op wh nL nF nI rr).length = 40 := by
  unfold hdA
  simp only [List.length_append, leL_len]
theorem hdZ_len (H : List Int) (us il ia la fl el : Int) : (hdZ H us il ia la fl el).length = H.length + 56 := by
  unfold hdZ
  simp only [List.length_append, leL_len]
/-- the image behind its rows: fragments, exports, ids -/
def tX3 (z : Int) (X2 : List Int) (T : List (Int × Int)) : List Int := if T = [] then X2 else X2 ++ tbT z X2.length (tbB T)
def tX4 (z op : Int) (X3 E : List Int) : List Int := if op / 8 % 2 = 0 then X3 else X3 ++ tbT z X3.length E
def tX5 (z : Int) (X4 ids : List Int) : List Int := X4 ++ tbT z X4.length (idB ids)
def fglP (z : Int) (X2 : List Int) (T : List (Int × Int)) : Int := if T = [] then -1 else (X2.length : Int) + ((clG z (tbB T) 0 (pcN (tbB T).length)).length : Nat)
def elP (z op : Int) (X3 E : List Int) : Int := if op / 8 % 2 = 0 then -1 else (X3.length : Int) + ((clG z E 0 (pcN E.length)).length : Nat)
def ilP (z : Int) (X4 ids : List Int) : Int := (X4.length : Int) + ((clG z (idB ids) 0 (pcN (idB ids).length)).length : Nat)
/-- references, eight bytes each -/
def exL (f : Int → Int) : List Int → List Int
  | [] => []
  | x :: r => leL (f x) 8 ++ exL f r
theorem exL_len (f : Int → Int) : ∀ l : List Int, (exL f l).length = 8 * l.length
  | [] => rfl
  | x :: r => by
    show (leL (f x) 8 ++ exL f r).length = 8 * (r.length + 1)
    rw [List.length_append, leL_len, exL_len f r]
    omega
theorem exL_app (f : Int → Int) (x : Int) : ∀ l : List Int, exL f (l ++ [x]) = exL f l ++ leL (f x) 8
  | [] => by
    show leL (f x) 8 ++ [] = [] ++ leL (f x) 8
    rw [List.append_nil, List.nil_append]
  | y :: r => by
    show leL (f y) 8 ++ exL f (r ++ [x]) = leL (f y) 8 ++ exL f r ++ leL (f x) 8
    rw [exL_app f x r, List.append_assoc]
theorem exL_cg {f g : Int → Int} : ∀ l : List Int, (∀ x ∈ l, f x = g x) → exL f l = exL g l
  | [], _ => rfl
  | x :: r, h => by
    show leL (f x) 8 ++ exL f r = leL (g x) 8 ++ exL g r
    rw [h x (List.mem_cons_self), exL_cg r (fun y hy => h y (List.mem_cons_of_mem _ hy))]
theorem tX3_le (z : Int) (X2 : List Int) (T : List (Int × Int)) : X2.length ≤ (tX3 z X2 T).length := by
  unfold tX3
  split
  · omega
  · rw [List.length_append]
    omega
theorem tX4_le (z op : Int) (X3 E : List Int) : X3.length ≤ (tX4 z op X3 E).length := by
  unfold tX4
  split
  · omega
  · rw [List.length_append]
    omega
theorem tX5_le (z : Int) (X4 ids : List Int) : X4.length ≤ (tX5 z X4 ids).length := by
  unfold tX5
  rw [List.length_append]
  omega
section CTABLES2
variable {d nx zl : Nat} {K : Option TV → FH → Prop} {sh : Nat → Option Shp} {M : FM} {op : Int} {o : Option (List Int)} {H : List Int}
theorem putTwo_H {x : Int} (hx : -2147483648 ≤ x ∧ x ≤ 2147483647) (h : rzW M (ovO o 0 H) H.length) (hp : ovH o 96) (hl : H.length + 2 ≤ 96) (k : ∀ M2 : FM, (∀ y : Nat, y ≠ 19 → y ≠ 20 → M2 y = M y) → rzW M2 (ovO o 0 (H ++ leL x 2)) (H ++ leL x 2).length → K none (sh, M2, nx, zl)) : fm_Y (d + 2) 113 [.ref 19, .int (Int32.ofInt x)] (sh, M, nx, zl) K := by
  refine putTwo_W hx h (ovH_o (fun X hX => by have := hp X hX; omega)) (fun M2 f2 h2 => k M2 f2 ?_)
  rw [← ovO_app, Nat.zero_add, List.length_append, leL_len]
  exact h2
theorem putFour_H {x : Int} (hx : -2147483648 ≤ x ∧ x ≤ 2147483647) (h : rzW M (ovO o 0 H) H.length) (hp : ovH o 96) (hl : H.length + 4 ≤ 96) (k : ∀ M2 : FM, (∀ y : Nat, y ≠ 19 → y ≠ 20 → M2 y = M y) → rzW M2 (ovO o 0 (H ++ leL x 4)) (H ++ leL x 4).length → K none (sh, M2, nx, zl)) : fm_Y (d + 2) 62 [.ref 19, .int (Int32.ofInt x)] (sh, M, nx, zl) K := by
  refine putFour_W hx h (ovH_o (fun X hX => by have := hp X hX; omega)) (fun M2 f2 h2 => k M2 f2 ?_)
  rw [← ovO_app, Nat.zero_add, List.length_append, leL_len]
  exact h2
theorem putEight_H {x : Int} (hx : -9223372036854775808 ≤ x ∧ x ≤ 9223372036854775807) (h : rzW M (ovO o 0 H) H.length) (hp : ovH o 96) (hl : H.length + 8 ≤ 96) (k : ∀ M2 : FM, (∀ y : Nat, y ≠ 19 → y ≠ 20 → M2 y = M y) → rzW M2 (ovO o 0 (H ++ leL x 8)) (H ++ leL x 8).length → K none (sh, M2, nx, zl)) : fm_Y (d + 2) 102 [.ref 19, .long (Int64.ofInt x)] (sh, M, nx, zl) K := by
  refine putEight_W hx h (ovH_o (fun X hX => by have := hp X hX; omega)) (fun M2 f2 h2 => k M2 f2 ?_)
  rw [← ovO_app, Nat.zero_add, List.length_append, leL_len]
  exact h2
theorem putHead_Y {lg wh B nL rr : Int} {nF nI a : Nat} {u v : Option Nat} (hop : 0 ≤ op ∧ op ≤ 15) (hlg : 0 ≤ lg ∧ lg ≤ 100) (hwh : -2147483648 ≤ wh ∧ wh ≤ 2147483647) (hB : 0 ≤ B ∧ B ≤ 100000) (hnL : 0 ≤ nL ∧ nL ≤ 2000) (h2 : M 18 2 = nL) (h16 : M 18 16 = B) (h17 : M 18 17 = op) (h78 : M 78 1 = 16 * nF) (hnF : nF ≤ 1000) (h86 : M 86 1 = 4 * nI) (hnI : nI ≤ 4000) (h21 : M 21 1 = a) (hS : shp sh a = some (.inr (3, nodeFl u v))) (ha : a = 17 ∨ 265 ≤ a) (hrr : M a 15 = rr) (hrb : -1 ≤ rr ∧ rr ≤ 8589942784) (h : rzW M o 0) (hp : ovH o 96)
    (k : ∀ M2 : FM, (∀ y : Nat, y ≠ 19 → y ≠ 20 → M2 y = M y) → rzW M2 (ovO o 0 (hdA B lg op wh nL nF nI rr)) 40 → K none (sh, M2, nx, zl)) : fm_Y (d + 3) 124 [.ref 18, .int (Int32.ofInt lg), .int (Int32.ofInt wh)] (sh, M, nx, zl) K := by
  have h0 : rzW M (ovO o 0 []) ([] : List Int).length := by
    cases o with
    | none => exact h
    | some X => exact h
  refine m124 [fx 18, ti lg, ti wh] ?_
  refine putFour_H (d := d) (by omega) h0 hp (by simp only [List.length_nil]; omega) (fun M1 f1 w1 => ?_)
  have v2 : M1 18 2 = nL := by rw [f1 18 (by omega) (by omega)]; exact h2
  refine putFour_H (d := d) (by omega) w1 hp (by simp only [List.length_append, List.length_nil, leL_len]; omega) (fun M2 f2 w2 => ?_)
  have o2 : ∀ y : Nat, y ≠ 19 → y ≠ 20 → M2 y = M y := fun y y1 y2 => by rw [f2 y y1 y2, f1 y y1 y2]
  refine putFour_H (d := d) (by omega) w2 hp (by simp only [List.length_append, List.length_nil, leL_len]; omega) (fun M3 f3 w3 => ?_)
  have o3 : ∀ y : Nat, y ≠ 19 → y ≠ 20 → M3 y = M y := fun y y1 y2 => by rw [f3 y y1 y2, o2 y y1 y2]
  have v16 : M3 18 16 = B := by rw [o3 18 (by omega) (by omega)]; exact h16
  refine putFour_H (d := d) (by omega) w3 hp (by simp only [List.length_append, List.length_nil, leL_len]; omega) (fun M4 f4 w4 => ?_)
  have o4 : ∀ y : Nat, y ≠ 19 → y ≠ 20 → M4 y = M y := fun y y1 y2 => by rw [f4 y y1 y2, o3 y y1 y2]
  have v78 : M4 78 1 = 16 * nF := by rw [o4 78 (by omega) (by omega)]; exact h78
  refine ⟨by omega, ?_⟩
  refine putFour_H (d := d) (by omega) w4 hp (by simp only [List.length_append, List.length_nil, leL_len]; omega) (fun M5 f5 w5 => ?_)
  have o5 : ∀ y : Nat, y ≠ 19 → y ≠ 20 → M5 y = M y := fun y y1 y2 => by rw [f5 y y1 y2, o4 y y1 y2]
  refine putTwo_H (d := d) (by omega) w5 hp (by simp only [List.length_append, List.length_nil, leL_len]; omega) (fun M6 f6 w6 => ?_)
  have o6 : ∀ y : Nat, y ≠ 19 → y ≠ 20 → M6 y = M y := fun y y1 y2 => by rw [f6 y y1 y2, o5 y y1 y2]
  refine putTwo_H (d := d) (by omega) w6 hp (by simp only [List.length_append, List.length_nil, leL_len]; omega) (fun M7 f7 w7 => ?_)
  have o7 : ∀ y : Nat, y ≠ 19 → y ≠ 20 → M7 y = M y := fun y y1 y2 => by rw [f7 y y1 y2, o6 y y1 y2]
  refine flags_Y (d := d + 1) hop (by rw [o7 18 (by omega) (by omega)]; exact h17) ?_
  have fr : 0 ≤ flN op ∧ flN op ≤ 10000 := by
    unfold flN
    split <;> split <;> split <;> split <;> omega
  refine putTwo_H (d := d) (by omega) w7 hp (by simp only [List.length_append, List.length_nil, leL_len]; omega) (fun M8 f8 w8 => ?_)
  have o8 : ∀ y : Nat, y ≠ 19 → y ≠ 20 → M8 y = M y := fun y y1 y2 => by rw [f8 y y1 y2, o7 y y1 y2]
  have v86 : M8 86 1 = 4 * nI := by rw [o8 86 (by omega) (by omega)]; exact h86
  refine ⟨by omega, ?_⟩
  refine putTwo_H (d := d) (by omega) w8 hp (by simp only [List.length_append, List.length_nil, leL_len]; omega) (fun M9 f9 w9 => ?_)
  have o9 : ∀ y : Nat, y ≠ 19 → y ≠ 20 → M9 y = M y := fun y y1 y2 => by rw [f9 y y1 y2, o8 y y1 y2]
  refine putTwo_H (d := d) (by omega) w9 hp (by simp only [List.length_append, List.length_nil, leL_len]; omega) (fun Ma fa wa => ?_)
  have oa : ∀ y : Nat, y ≠ 19 → y ≠ 20 → Ma y = M y := fun y y1 y2 => by rw [fa y y1 y2, o9 y y1 y2]
  refine putTwo_H (d := d) (by omega) wa hp (by simp only [List.length_append, List.length_nil, leL_len]; omega) (fun Mb fb wb => ?_)
  have ob : ∀ y : Nat, y ≠ 19 → y ≠ 20 → Mb y = M y := fun y y1 y2 => by rw [fb y y1 y2, oa y y1 y2]
  have v21 : Mb 21 1 = a := by rw [ob 21 (by omega) (by omega)]; exact h21
  refine ⟨by omega, fun m hm => ?_, fun hm => by omega⟩
  have em : m = a := by omega
  rw [em]
  refine ⟨_, hS, ?_⟩
  have v15 : Mb a 15 = rr := by rw [ob a (by omega) (by omega)]; exact hrr
  refine putEight_H (d := d) (by omega) wb hp (by simp only [List.length_append, List.length_nil, leL_len]; omega) (fun Mc fc wc => ?_)
  refine k Mc (fun y y1 y2 => by rw [fc y y1 y2, ob y y1 y2]) ?_
  rw [v2, v16, v15, v78, v86, show (16 : Int) * nF / 16 = nF by omega, show (4 : Int) * nI / 4 = nI by omega] at wc
  have wd : rzW Mc (ovO o 0 (hdA B lg op wh nL nF nI rr)) (hdA B lg op wh nL nF nI rr).length := wc
  rw [hdA_len] at wd
  exact wd
theorem ranOver_Y (b1 : M 19 2 = 0 ∨ M 19 2 = 1) (b2 : M 70 2 = 0 ∨ M 70 2 = 1) (b3 : M 74 2 = 0 ∨ M 74 2 = 1) (b4 : M 88 2 = 0 ∨ M 88 2 = 1) (k : ∀ z : Int, (z = 1 ∧ (M 19 2 = 1 ∨ M 70 2 = 1 ∨ M 74 2 = 1 ∨ M 88 2 = 1) ∨ z = 0 ∧ (M 19 2 = 0 ∧ M 70 2 = 0 ∧ M 74 2 = 0 ∧ M 88 2 = 0)) → K (some (ti z)) (sh, M, nx, zl)) : fm_Y (d + 1) 126 [.ref 18] (sh, M, nx, zl) K := by
  refine m126 [fx 18] ?_
  have Y1 : M 19 2 = 1 ∨ M 70 2 = 1 ∨ M 74 2 = 1 ∨ M 88 2 = 1 → b126_46 d (fW d kd126 K) K [some (fx 18)] [] (sh, M, nx, zl) := fun h => ⟨Or.inr rfl, k 1 (Or.inl ⟨rfl, h⟩)⟩
  rcases b1 with b1 | b1
  · refine ⟨by omega, fun w => by omega, fun w => ?_⟩
    rcases b2 with b2 | b2
    · refine ⟨by omega, fun w => by omega, fun w => ?_⟩
      rcases b3 with b3 | b3
      · refine ⟨by omega, fun w => by omega, fun w => ?_⟩
        rcases b4 with b4 | b4
        · refine ⟨by omega, fun w => ⟨Or.inl rfl, k 0 (Or.inr ⟨rfl, b1, b2, b3, b4⟩)⟩, fun w => by omega⟩
        · exact ⟨by omega, fun w => by omega, fun w => Y1 (Or.inr (Or.inr (Or.inr b4)))⟩
      · exact ⟨by omega, fun w => Y1 (Or.inr (Or.inr (Or.inl b3))), fun w => by omega⟩
    · exact ⟨by omega, fun w => Y1 (Or.inr (Or.inl b2)), fun w => by omega⟩
  · exact ⟨by omega, fun w => Y1 (Or.inl b1), fun w => by omega⟩
end CTABLES2
