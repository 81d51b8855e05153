/-! PACKING: bits written; both -/
/-- bits as a number, the lowest first -/
def blV : List Int → Int
  | [] => 0
  | b :: r => b + 2 * blV r
def bsP (B : List Int) : Prop := ∀ x ∈ B, x = 0 ∨ x = 1
/-- the byte i of bits -/
def byB (B : List Int) (i : Nat) : Int := blV ((B.drop (8 * i)).take 8)
/-- n bits of a number, the lowest first -/
def nbL (v : Int) : Nat → List Int
  | 0 => []
  | n + 1 => nbL v n ++ [v / 2 ^ n % 2]
/-- n bits of a number, the highest first -/
def hbL (v : Int) : Nat → List Int
  | 0 => []
  | n + 1 => (v / 2 ^ n % 2) :: hbL v n
theorem bsP_app {A B : List Int} (h1 : bsP A) (h2 : bsP B) : bsP (A ++ B) := fun x hx => by
  rcases List.mem_append.1 hx with y | y
  · exact h1 x y
  · exact h2 x y
theorem bsP_drop {A : List Int} (h : bsP A) (n : Nat) : bsP (A.drop n) := fun x hx => h x (List.mem_of_mem_drop hx)
theorem bsP_take {A : List Int} (h : bsP A) (n : Nat) : bsP (A.take n) := fun x hx => h x (List.mem_of_mem_take hx)
theorem blV_app (A B : List Int) : blV (A ++ B) = blV A + 2 ^ A.length * blV B := by
  induction A with
  | nil =>
    show blV B = 0 + 2 ^ 0 * blV B
    rw [show (2 : Int) ^ 0 = 1 from rfl]
    omega
  | cons a A ih =>
    show a + 2 * blV (A ++ B) = a + 2 * blV A + 2 ^ (A.length + 1) * blV B
    rw [ih, Int.pow_succ, Int.mul_comm (2 ^ A.length) 2, Int.mul_assoc, Int.mul_add]
    omega
theorem blV_r {A : List Int} (h : bsP A) : 0 ≤ blV A ∧ blV A < 2 ^ A.length := by
  induction A with
  | nil => exact ⟨by decide, by decide⟩
  | cons a A ih =>
    have i := ih (fun x hx => h x (List.mem_cons_of_mem _ hx))
    have a1 := h a (List.mem_cons_self ..)
    show 0 ≤ a + 2 * blV A ∧ a + 2 * blV A < 2 ^ (A.length + 1)
    rw [Int.pow_succ]
    rcases a1 with a1 | a1 <;> omega
theorem nbL_len (v : Int) : ∀ n : Nat, (nbL v n).length = n
  | 0 => rfl
  | n + 1 => by
    show (nbL v n ++ [v / 2 ^ n % 2]).length = n + 1
    rw [List.length_append, nbL_len v n]
    rfl
theorem nbL_bs (v : Int) : ∀ n : Nat, bsP (nbL v n)
  | 0 => fun x hx => by cases hx
  | n + 1 => by
    refine bsP_app (nbL_bs v n) (fun x hx => ?_)
    rw [List.mem_singleton.1 hx]
    generalize v / 2 ^ n = z
    omega
theorem hbL_len (v : Int) : ∀ n : Nat, (hbL v n).length = n
  | 0 => rfl
  | n + 1 => by
    show (hbL v n).length + 1 = n + 1
    rw [hbL_len v n]
theorem blV_nb (v : Int) : ∀ n : Nat, blV (nbL v n) = v % 2 ^ n
  | 0 => by
    show (0 : Int) = v % 2 ^ 0
    rw [show (2 : Int) ^ 0 = 1 from rfl]
    omega
  | n + 1 => by
    show blV (nbL v n ++ [v / 2 ^ n % 2]) = v % 2 ^ (n + 1)
    rw [blV_app, blV_nb v n, nbL_len]
    show v % 2 ^ n + 2 ^ n * (v / 2 ^ n % 2 + 2 * 0) = _
    rw [Int.pow_succ, Int.mul_zero, Int.add_zero]
    have tp := two_pos n
    generalize (2 : Int) ^ n = p at *
    have e1 := Int.mul_ediv_add_emod v p
    have e2 := Int.mul_ediv_add_emod (v / p) 2
    have m1 := Int.emod_nonneg v (show p ≠ 0 by omega)
    have m2 := Int.emod_lt_of_pos v tp
    generalize v % p = r at *
    generalize v / p = q at *
    have b : q % 2 = 0 ∨ q % 2 = 1 := by omega
    have ev : v = (r + p * (q % 2)) + p * 2 * (q / 2) := by
      rw [← e1, Int.mul_assoc, Int.add_assoc, ← Int.mul_add, show q % 2 + 2 * (q / 2) = q by omega]
      omega
    rw [ev, Int.add_mul_emod_self_left]
    refine (Int.emod_eq_of_lt ?_ ?_).symm
    · rcases b with b | b <;> (rw [b]; omega)
    · rcases b with b | b <;> (rw [b]; omega)
theorem nbL_cons (v : Int) : ∀ n : Nat, nbL v (n + 1) = (v % 2) :: nbL (v / 2) n
  | 0 => by
    show [] ++ [v / 2 ^ 0 % 2] = [v % 2]
    rw [show (2 : Int) ^ 0 = 1 from rfl, Int.ediv_one]
    rfl
  | n + 1 => by
    show nbL v (n + 1) ++ [v / 2 ^ (n + 1) % 2] = (v % 2) :: (nbL (v / 2) n ++ [v / 2 / 2 ^ n % 2])
    rw [nbL_cons v n, Int.ediv_ediv_of_nonneg (by omega), Int.pow_succ, Int.mul_comm 2]
    rfl
theorem nb_hb (v : Int) : ∀ n : Nat, nbL (rvB v n) n = hbL v n
  | 0 => rfl
  | n + 1 => by
    rw [nbL_cons]
    show (2 * rvB v n + v / 2 ^ n % 2) % 2 :: nbL ((2 * rvB v n + v / 2 ^ n % 2) / 2) n = (v / 2 ^ n % 2) :: hbL v n
    generalize v / 2 ^ n = z
    rw [show (2 * rvB v n + z % 2) % 2 = z % 2 by omega, show (2 * rvB v n + z % 2) / 2 = rvB v n by omega, nb_hb v n]
theorem byB_app {A B : List Int} {i : Nat} (h : 8 * i + 8 ≤ A.length) : byB (A ++ B) i = byB A i := by
  unfold byB
  rw [List.drop_append_of_le_length (by omega), List.take_append_of_le_length (by rw [List.length_drop]; omega)]
/-- the bits behind whole bytes -/
def tlB (B : List Int) : List Int := B.drop (8 * (B.length / 8))
theorem byB_tail (B : List Int) : byB B (B.length / 8) = blV (tlB B) := by
  unfold byB tlB
  rw [List.take_of_length_le (by rw [List.length_drop]; omega)]
theorem byB_r {B : List Int} (h : bsP B) (i : Nat) : 0 ≤ byB B i ∧ byB B i < 256 := by
  have r := blV_r (bsP_take (bsP_drop h (8 * i)) 8)
  have l : ((B.drop (8 * i)).take 8).length ≤ 8 := by
    rw [List.length_take]
    omega
  have p : (2 : Int) ^ ((B.drop (8 * i)).take 8).length ≤ 256 := by
    generalize ((B.drop (8 * i)).take 8).length = y at l
    have : y = 0 ∨ y = 1 ∨ y = 2 ∨ y = 3 ∨ y = 4 ∨ y = 5 ∨ y = 6 ∨ y = 7 ∨ y = 8 := by omega
    rcases this with e | e | e | e | e | e | e | e | e <;> (rw [e]; decide)
  unfold byB
  omega
theorem byB_snoc {B : List Int} {b : Int} {i : Nat} (hi : i = B.length / 8) : byB (B ++ [b]) i = byB B i + b * 2 ^ (B.length % 8) := by
  rw [hi, byB_tail]
  unfold byB tlB
  rw [List.drop_append_of_le_length (by omega), List.take_of_length_le (by rw [List.length_append, List.length_drop]; simp only [List.length_cons, List.length_nil]; omega), blV_app, List.length_drop, show B.length - 8 * (B.length / 8) = B.length % 8 by omega]
  show _ + 2 ^ (B.length % 8) * (b + 2 * 0) = _
  rw [Int.mul_zero, Int.add_zero, Int.mul_comm]
section WBITS
variable {d nx zl : Nat} {K : Option TV → FH → Prop} {sh : Nat → Option Shp} {M : FM} {B : List Int}
/-- the reference's bits -/
def wbV (M : FM) (B : List Int) : Prop := (M 168 28 = B.length ∧ bsP B) ∧ ∀ i : Nat, 8 * i < B.length → M 188 i = by1 (byB B i) 1
def wbF (M M2 : FM) : Prop := (∀ x : Nat, x ≠ 168 → x ≠ 188 → M2 x = M x) ∧ ∀ i : Int, i ≠ 28 → M2 168 i = M 168 i
theorem wbF_t {M M2 M3 : FM} (h1 : wbF M M2) (h2 : wbF M2 M3) : wbF M M3 := ⟨fun x x1 x2 => by rw [h2.1 x x1 x2, h1.1 x x1 x2], fun i hi => by rw [h2.2 i hi, h1.2 i hi]⟩
theorem writeBit_Y {b : Int} (hB : wbV M B) (hb : b = 0 ∨ b = 1) (hl : B.length < 528000) (k : ∀ M2 : FM, wbF M M2 → wbV M2 (B ++ [b]) → K none (sh, M2, nx, zl)) : fm_Y (d + 1) 274 [.ref 168, .int (Int32.ofInt b)] (sh, M, nx, zl) K := by
  obtain ⟨⟨hn, hs⟩, hv⟩ := hB
  have bb : 0 ≤ b ∧ b ≤ 1 := by omega
  have hs2 : bsP (B ++ [b]) := bsP_app hs (fun x hx => by rw [List.mem_singleton.1 hx]; exact hb)
  refine m274 [fx 168, ti b] ?_
  obtain ⟨kb, gk⟩ : ∃ kb : Nat, kb = B.length / 8 := ⟨_, rfl⟩
  have ek : M 168 28 / 8 = (kb : Int) := by omega
  have sn := byB_snoc (b := b) gk
  have br := byB_r hs2 kb
  have B43 : ∀ v : Int, v = byB (B ++ [b]) kb → b274_43 d (fW d kd274 K) K [some (fx 168), some (ti b), some (ti (M 168 28 / 8))] [ti v, ti (M 168 28 / 8), fx 188] (sh, M, nx, zl) := by
    intro v hv2
    refine ⟨by omega, ?_⟩
    obtain ⟨P1, g1⟩ : ∃ P1 : FM, P1 = pq M 188 (M 168 28 / 8) ((v + 128) % 256 - 128) := ⟨_, rfl⟩
    obtain ⟨P2, g2⟩ : ∃ P2 : FM, P2 = pq P1 168 28 (P1 168 28 + 1) := ⟨_, rfl⟩
    have e168 : P1 168 = M 168 := by rw [g1, pq_o _ _ _ (by omega)]
    have T : K none (sh, P2, nx, zl) := by
      refine k P2 ⟨fun x x1 x2 => by rw [g2, pq_o _ _ _ x1, g1, pq_o _ _ _ x2], fun i hi => by rw [g2, pq_ne _ _ _ _ hi, e168]⟩ ⟨⟨?_, hs2⟩, fun i hi => ?_⟩
      · rw [g2, pq_at, e168, hn, List.length_append]
        rfl
      · rw [g2, pq_o _ _ _ (by omega), g1]
        rw [List.length_append] at hi
        simp only [List.length_cons, List.length_nil] at hi
        by_cases e : i = kb
        · rw [e, ek, pq_at, hv2]
          unfold by1
          rw [Int.ediv_one]
        · rw [pq_ne _ _ _ _ (by omega), hv i (by omega), byB_app (by omega)]
    rw [g2, g1] at T
    exact T
  refine ⟨by omega, ?_⟩
  refine ⟨by omega, ?_⟩
  refine ⟨by omega, fun u => ?_, fun u => ?_⟩
  · have hk := hv kb (by omega)
    have ob := byB_r hs kb
    have sm : byB B kb < 2 ^ (B.length % 8) := by
      rw [gk, byB_tail]
      have r := (blV_r (bsP_drop hs (8 * (B.length / 8)))).2
      rw [List.length_drop, show B.length - 8 * (B.length / 8) = B.length % 8 by omega] at r
      exact r
    have pm : B.length % 8 ≤ 7 := by omega
    have ph : (2 : Int) ^ (B.length % 8) ≤ 128 := by
      generalize B.length % 8 = y at pm
      have : y = 0 ∨ y = 1 ∨ y = 2 ∨ y = 3 ∨ y = 4 ∨ y = 5 ∨ y = 6 ∨ y = 7 := by omega
      rcases this with e | e | e | e | e | e | e | e <;> (rw [e]; decide)
    have e1 : M 188 (M 168 28 / 8) = byB B kb := by
      rw [ek, hk]
      unfold by1
      rw [Int.ediv_one]
      omega
    have em : (M 168 28 % 8).toNat = B.length % 8 := by omega
    refine ⟨by omega, ?_⟩
    rw [e1]
    refine ⟨by omega, ?_⟩
    refine ⟨by omega, ?_⟩
    rw [em]
    refine ⟨_, i32_or (k := B.length % 8) (by omega) rfl rfl (by omega) (by omega), ?_⟩
    exact B43 _ (by rw [sn]; omega)
  · refine B43 _ ?_
    rw [sn, show B.length % 8 = 0 by omega]
    have z : byB B kb = 0 := by
      rw [gk, byB_tail]
      unfold tlB
      rw [List.drop_eq_nil_of_le (by omega)]
      rfl
    rw [z, show (2 : Int) ^ 0 = 1 from rfl]
    omega
theorem writeNumber_Y {v : Int} {n : Nat} (hB : wbV M B) (hv : 0 ≤ v ∧ v ≤ 2147483647) (hn : n ≤ 31) (hl : B.length + n ≤ 528000) (k : ∀ M2 : FM, wbF M M2 → wbV M2 (B ++ nbL v n) → K none (sh, M2, nx, zl)) : fm_Y (d + 2) 273 [.ref 168, .int (Int32.ofInt v), .int (Int32.ofInt n)] (sh, M, nx, zl) K := by
  refine m273 [fx 168, ti v, ti n] ?_
  have L : ∀ (G j : Nat) (ji : Int) (M1 : FM), ((n : Int) - ji).toNat < G → ji = j → j ≤ n → wbF M M1 → wbV M1 (B ++ nbL v j) → fm_X (d + 1) kd273 2 [some (fx 168), some (ti v), some (ti n), some (ti ji)] [] (sh, M1, nx, zl) K := by
    intro G
    induction G with
    | zero => intro j ji M1 z; omega
    | succ G ih =>
      intro j ji M1 q1 q2 q3 F1 h1
      refine s273_2 (d + 1) K _ _ _ ?_
      refine ⟨by omega, fun u => ?_, fun u => ?_⟩
      · exact k M1 F1 (by rw [show n = j by omega]; exact h1)
      · refine ⟨by omega, ?_⟩
        refine writeBit_Y h1 (by generalize v / 2 ^ ji.toNat = z; omega) (by rw [List.length_append, nbL_len]; omega) (fun M2 F2 h2 => ?_)
        refine ih (j + 1) (ji + 1) M2 (by omega) (by omega) (by omega) (wbF_t F1 F2) ?_
        show wbV M2 (B ++ (nbL v j ++ [v / 2 ^ j % 2]))
        rw [← List.append_assoc, show j = ji.toNat by omega]
        rw [show j = ji.toNat by omega] at h2
        exact h2
  exact L (n + 1) 0 0 M (by omega) rfl (by omega) ⟨fun _ _ _ => rfl, fun _ _ => rfl⟩ (by show wbV M (B ++ []); rw [List.append_nil]; exact hB)
theorem writeNumber_YI {v ni : Int} {n : Nat} (hni : ni = n) (hB : wbV M B) (hv : 0 ≤ v ∧ v ≤ 2147483647) (hn : n ≤ 31) (hl : B.length + n ≤ 528000) (k : ∀ M2 : FM, wbF M M2 → wbV M2 (B ++ nbL v n) → K none (sh, M2, nx, zl)) : fm_Y (d + 2) 273 [.ref 168, .int (Int32.ofInt v), .int (Int32.ofInt ni)] (sh, M, nx, zl) K := by
  rw [hni]
  exact writeNumber_Y hB hv hn hl k
/-- zeros up to the end of a byte -/
def padB (B : List Int) : List Int := B ++ List.replicate ((8 - B.length % 8) % 8) 0
theorem endByte_Y (hB : wbV M B) (hl : B.length ≤ 528000 - 8) (k : ∀ M2 : FM, wbF M M2 → wbV M2 (padB B) → K none (sh, M2, nx, zl)) : fm_Y (d + 2) 294 [.ref 168] (sh, M, nx, zl) K := by
  refine m294 [fx 168] ?_
  have L : ∀ (G j : Nat) (M1 : FM), (8 - B.length % 8) % 8 - j < G → j ≤ (8 - B.length % 8) % 8 → wbF M M1 → wbV M1 (B ++ List.replicate j 0) → b294_0 (d + 1) (fW (d + 1) kd294 K) K [some (fx 168)] [] (sh, M1, nx, zl) := by
    intro G
    induction G with
    | zero => intro j M1 z; omega
    | succ G ih =>
      intro j M1 q1 q2 F1 h1
      have e1 := h1.1.1
      rw [List.length_append, List.length_replicate] at e1
      refine ⟨by omega, ?_⟩
      refine ⟨by omega, fun u => ?_, fun u => ?_⟩
      · refine k M1 F1 ?_
        unfold padB
        rw [show (8 - B.length % 8) % 8 = j by omega]
        exact h1
      · refine writeBit_Y h1 (Or.inl rfl) (by rw [List.length_append, List.length_replicate]; omega) (fun M2 F2 h2 => ?_)
        refine s294_0 (d + 1) K _ _ _ ?_
        refine ih (j + 1) M2 (by omega) (by omega) (wbF_t F1 F2) ?_
        rw [List.replicate_succ', ← List.append_assoc]
        exact h2
  exact L 9 0 M (by omega) (by omega) ⟨fun _ _ _ => rfl, fun _ _ => rfl⟩ (by rw [List.replicate_zero, List.append_nil]; exact hB)
theorem writeCode_Y {c n L : Nat} {s v : Int} (hs : shp sh c = some (.inl (.int, n))) (hc : c ≠ 168 ∧ c ≠ 188) (hr : 0 ≤ s ∧ s < n ∧ n ≤ 339) (hL : M c s = L) (hL2 : L ≤ 15) (hv : M 203 s = v) (hvr : 0 ≤ v ∧ v ≤ 2147483647) (hB : wbV M B) (hl : B.length + L ≤ 528000) (k : ∀ M2 : FM, wbF M M2 → wbV M2 (B ++ hbL v L) → K none (sh, M2, nx, zl)) : fm_Y (d + 2) 298 [.ref 168, .ref c, .int (Int32.ofInt s)] (sh, M, nx, zl) K := by
  refine m298 [fx 168, gr c, ti s] ?_
  refine ⟨n, hs, ⟨by omega, by omega, by omega⟩, ?_⟩
  rw [hL]
  have Lp : ∀ (j : Nat) (ji : Int) (pre : List Int) (M1 : FM), ji = (j : Int) - 1 → j ≤ L → pre.length + j = B.length + L → pre ++ hbL v j = B ++ hbL v L → wbF M M1 → wbV M1 pre → fm_X (d + 1) kd298 6 [some (fx 168), some (gr c), some (ti s), some (ti ji)] [] (sh, M1, nx, zl) K := by
    intro j
    induction j with
    | zero =>
      intro ji pre M1 q1 q2 q3 q4 F1 h1
      refine s298_6 (d + 1) K _ _ _ ?_
      refine ⟨by omega, fun _ => ?_, fun z => by omega⟩
      have e : pre ++ [] = B ++ hbL v L := q4
      rw [List.append_nil] at e
      exact k M1 F1 (by rw [← e]; exact h1)
    | succ j ih =>
      intro ji pre M1 q1 q2 q3 q4 F1 h1
      have e : pre ++ ((v / 2 ^ j % 2) :: hbL v j) = B ++ hbL v L := q4
      have ev : M1 203 s = v := by rw [F1.1 203 (by omega) (by omega)]; exact hv
      refine s298_6 (d + 1) K _ _ _ ?_
      refine ⟨by omega, fun z => by omega, fun _ => ?_⟩
      refine ⟨by omega, ?_⟩
      rw [ev]
      refine ⟨by omega, ?_⟩
      have ej : ji.toNat = j := by omega
      rw [ej]
      refine writeBit_Y h1 (by generalize v / 2 ^ j = z; omega) (by omega) (fun M2 F2 h2 => ?_)
      refine ih (ji + -1) (pre ++ [v / 2 ^ j % 2]) M2 (by omega) (by omega) (by rw [List.length_append]; simp only [List.length_cons, List.length_nil]; omega) (by rw [List.append_assoc]; exact e) (wbF_t F1 F2) h2
  exact Lp L _ B M rfl (by omega) rfl rfl ⟨fun _ _ _ => rfl, fun _ _ => rfl⟩ hB
end WBITS
