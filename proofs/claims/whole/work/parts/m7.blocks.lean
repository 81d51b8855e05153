/-! FREEZING: data: a block; the class -/
theorem and_op2 : ∀ y : Nat, y < 16 → Int32.ofInt (y : Int) &&& Int32.ofInt 2 = Int32.ofInt ((y : Int) / 2 % 2 * 2) := by decide +kernel
theorem and_op4 : ∀ y : Nat, y < 16 → Int32.ofInt (y : Int) &&& Int32.ofInt 4 = Int32.ofInt ((y : Int) / 4 % 2 * 4) := by decide +kernel
theorem and_op8 : ∀ y : Nat, y < 16 → Int32.ofInt (y : Int) &&& Int32.ofInt 8 = Int32.ofInt ((y : Int) / 8 % 2 * 8) := by decide +kernel
theorem iand_op {op : Int} (h : 0 ≤ op ∧ op ≤ 15) : (Int32.ofInt op &&& Int32.ofInt 2 = Int32.ofInt (op / 2 % 2 * 2)) ∧ (Int32.ofInt op &&& Int32.ofInt 4 = Int32.ofInt (op / 4 % 2 * 4)) ∧ (Int32.ofInt op &&& Int32.ofInt 8 = Int32.ofInt (op / 8 % 2 * 8)) := by
  obtain ⟨y, rfl⟩ : ∃ y : Nat, op = y := ⟨op.toNat, by omega⟩
  exact ⟨and_op2 y (by omega), and_op4 y (by omega), and_op8 y (by omega)⟩
/-- bytes as they are stored, and their block number -/
def stB (op : Int) (X : List Int) : List Int × Int := if op / 2 % 2 = 0 ∧ (pkL X).length < X.length then (pkL X, ((pkL X).length : Int)) else (X, (X.length : Int) + 16777216)
theorem stB_len (op : Int) (X : List Int) : (stB op X).1.length ≤ X.length := by
  unfold stB
  split
  · rename_i h
    show (pkL X).length ≤ X.length
    omega
  · exact Nat.le_refl _
theorem pkL_pos (X : List Int) (h : X.length ≤ 65536) : 6 ≤ (pkL X).length ∧ (pkL X).length ≤ 65642 := by
  have pl := pkB_len (f := lf X) (a := 0) (n := X.length) (by omega)
  have pp := padB_len (pkB (lf X) 0 X.length)
  rw [pkL_len]
  unfold pkS
  rw [List.length_append, ckL_len]
  omega
theorem stB_num (op : Int) (X : List Int) (h : X.length ≤ 65536) : 0 < (stB op X).2 ∧ (stB op X).2 ≤ 16842752 := by
  have pp := pkL_pos X h
  unfold stB
  split
  · show 0 < ((pkL X).length : Int) ∧ ((pkL X).length : Int) ≤ 16842752
    omega
  · show 0 < (X.length : Int) + 16777216 ∧ (X.length : Int) + 16777216 ≤ 16842752
    omega
theorem rep_iff {f : Int → Int} : ∀ (n : Nat) (a : Int), sl f a n = List.replicate n 0 → ∀ i : Nat, i < n → f (a + i) % 256 = 0 := by
  intro n a h i hi
  have g := sl_get (f := f) n a i hi
  rw [h, List.getElem?_replicate, if_pos hi] at g
  injection g with g
  exact g.symm
/-- the rest that goes to a fragment; how many blocks -/
def rsN (op B n : Int) : Int := if op / 4 % 2 = 0 then n % B else 0
def bkN (op B n : Int) : Int := (n - rsN op B n + B - 1) / B
section BLK
variable {d nx zl : Nat} {K : Option TV → FH → Prop} {sh : Nat → Option Shp} {M : FM} {op B : Int}
theorem isZeros_Y {c nc : Nat} {p n : Int} (hs : shp sh c = some (.inl (.byte, nc))) (hnc : nc ≤ 2147483647) (hp : 0 ≤ p) (hn : 0 ≤ n) (hpn : p + n ≤ nc) (k : ∀ z : Int, (z = 1 ∧ sl (M c) p n.toNat = List.replicate n.toNat 0 ∨ z = 0 ∧ sl (M c) p n.toNat ≠ List.replicate n.toNat 0) → K (some (ti z)) (sh, M, nx, zl)) : fm_Y (d + 1) 68 [.ref c, .int (Int32.ofInt p), .int (Int32.ofInt n)] (sh, M, nx, zl) K := by
  refine m68 [gr c, ti p, ti n] ?_
  have L : ∀ (N : Nat) (i : Int), (p + n - i).toNat < N → p ≤ i → i ≤ p + n → (∀ j : Int, p ≤ j → j < i → M c j % 256 = 0) → fm_X d kd68 2 [some (gr c), some (ti p), some (ti n), some (ti i)] [] (sh, M, nx, zl) K := by
    intro N
    induction N with
    | zero =>
      intro i hN
      omega
    | succ N ih =>
      intro i hN i0 i1 hz
      refine s68_2 d K _ _ _ ?_
      refine ⟨by omega, fun w => ?_, fun w => ?_⟩
      · refine ⟨Or.inr rfl, k 1 (Or.inl ⟨rfl, rep_sl _ p (fun j hj => hz (p + j) (by omega) (by omega))⟩)⟩
      · refine ⟨nc, hs, ⟨by omega, by omega, by omega⟩, ?_⟩
        refine ⟨by omega, fun w2 => ?_, fun w2 => ?_⟩
        · refine ih (i + 1) (by omega) (by omega) (by omega) (fun j j0 j1 => ?_)
          by_cases e : j = i
          · rw [e]
            omega
          · exact hz j j0 (by omega)
        · refine ⟨Or.inl rfl, k 0 (Or.inr ⟨rfl, fun q => ?_⟩)⟩
          have := rep_iff _ p q (i - p).toNat (by omega)
          rw [show p + (((i - p).toNat : Nat) : Int) = i by omega] at this
          omega
  exact L ((p + n - p).toNat + 1) p (by omega) (by omega) (by omega) (fun j j0 j1 => by omega)
/-- what putting a block leaves -/
def pbK (M M2 : FM) : Prop := ∀ x : Nat, x ≠ 19 → x ≠ 20 → (x < 22 ∨ 67 < x ∨ (49 < x ∧ x < 64)) → M2 x = M x
theorem cputBlock_Y {c nc : Nat} {p n : Int} {t : Option (List Int)} {X : List Int} (hs : shp sh c = some (.inl (.byte, nc))) (hnc : nc ≤ 131072) (hc : (c < 19 ∨ 67 < c)) (hp : 0 ≤ p) (hn : 1 ≤ n ∧ n ≤ 65536) (hpn : p + n ≤ nc) (hX : sl (M c) p n.toNat = X) (hop : 0 ≤ op ∧ op ≤ 15) (h17 : M 18 17 = op) (hC : pkC M) (hto : rzO M 19 20 131072 t) (k : ∀ M2 : FM, pbK M M2 → rzO M2 19 20 131072 (apO 131072 t (stB op X).1) → K (some (ti (stB op X).2)) (sh, M2, nx, zl)) : fm_Y (d + 6) 69 [.ref 18, .ref c, .int (Int32.ofInt p), .int (Int32.ofInt n)] (sh, M, nx, zl) K := by
  have xl : (X.length : Int) = n := by
    rw [← hX, sl_len]
    omega
  have pp := pkL_pos X (by omega)
  refine m69 [fx 18, gr c, ti p, ti n] ?_
  refine ⟨_, (iand_op (op := M 18 17) (by rw [h17]; exact hop)).1, ?_⟩
  have B23 : ∀ (pk : Int) (M2 : FM), pk = (if op / 2 % 2 = 0 then ((pkL X).length : Int) else n) → pbK M M2 → M2 c = M c → rzO M2 19 20 131072 t → (op / 2 % 2 = 0 → sl (M2 24) 0 (pkL X).length = pkL X) → b69_23 (d + 5) (fW (d + 5) kd69 K) K [some (fx 18), some (gr c), some (ti p), some (ti n), none] [ti pk] (sh, M2, nx, zl) := by
    intro pk M2 hpk f2 ec w2 h24
    have pr : 0 ≤ pk ∧ pk ≤ 65642 := by
      rw [hpk]
      split <;> omega
    refine ⟨by omega, fun w => ?_, fun w => ?_⟩
    · have es : stB op X = (X, (X.length : Int) + 16777216) := by
        unfold stB
        rw [if_neg ?_]
        intro hh
        rw [if_pos hh.1] at hpk
        omega
      refine putAll_O (row19 sh) hs (by omega) (by omega) (by omega) hp (by omega) hpn w2 (fun M3 f3 w3 => ?_)
      have F := k M3 (fun x x1 x2 x3 => by rw [f3 x x1 x2]; exact f2 x x1 x2 x3) (by
        rw [es]
        rw [ec, hX] at w3
        exact w3)
      rw [es] at F
      have F2 : K (some (ti ((X.length : Int) + 16777216))) (sh, M3, nx, zl) := F
      rw [xl] at F2
      exact F2
    · have ho : op / 2 % 2 = 0 := by
        by_cases q : op / 2 % 2 = 0
        · exact q
        · rw [if_neg q] at hpk
          omega
      rw [if_pos ho] at hpk
      have es : stB op X = (pkL X, ((pkL X).length : Int)) := by
        unfold stB
        rw [if_pos ⟨ho, by omega⟩]
      refine putAll_O (c := 24) (nc := 65792) (row19 sh) rfl (by omega) (by omega) (by omega) (by omega) (by omega) (by omega) w2 (fun M3 f3 w3 => ?_)
      have F := k M3 (fun x x1 x2 x3 => by rw [f3 x x1 x2]; exact f2 x x1 x2 x3) (by
        rw [es]
        rw [show pk.toNat = (pkL X).length by omega, h24 ho] at w3
        exact w3)
      rw [es] at F
      have F2 : K (some (ti ((pkL X).length : Int))) (sh, M3, nx, zl) := F
      rw [← hpk] at F2
      exact F2
  refine ⟨by omega, fun w => ?_, fun w => ?_⟩
  · have ho : op / 2 % 2 = 0 := by omega
    have eL : ((pkS (M c) p n).length / 8 : Nat) = (pkL X).length := by
      have e5 := pk_lf (f := M c) (a := p) (n := n.toNat) hX
      rw [pkL_len, ← e5, show ((n.toNat : Nat) : Int) = n by omega]
    refine pack_Y (c := c) (nc := nc) (f := M c) hs hnc (by omega) rfl hn ⟨hp, hpn⟩ hC (fun M2 p2 v2 => ?_)
    rw [eL]
    refine B23 _ M2 (by rw [if_pos ho]) (fun x x1 x2 x3 => p2 x x3) (p2 c (by omega)) (rzO_F hto (p2 19 (by omega)) (p2 20 (by omega))) (fun _ => ?_)
    have v3 : pbV M2 (pkS (M c) p (n.toNat : Nat)) := by
      rw [show ((n.toNat : Nat) : Int) = n by omega]
      exact v2
    exact pk_row hX v3
  · refine B23 n M (by rw [if_neg (by omega)]) (fun _ _ _ _ => rfl) rfl hto (fun q => by omega)
theorem restOf_Y {a : Nat} {h9 t9 : Option Nat} {n : Int} (hS : shp sh a = some (.inr (3, nodeFl h9 t9))) (h12 : M a 12 = n) (hn : 0 ≤ n ∧ n ≤ 65536) (h16 : M 18 16 = B) (hB : 1 ≤ B ∧ B ≤ 65536) (h17 : M 18 17 = op) (hop : 0 ≤ op ∧ op ≤ 15) (k : K (some (ti (rsN op B n))) (sh, M, nx, zl)) : fm_Y (d + 1) 67 [.ref 18, .ref a] (sh, M, nx, zl) K := by
  refine m67 [fx 18, gr a] ?_
  refine ⟨_, (iand_op (op := M 18 17) (by rw [h17]; exact hop)).2.1, ?_⟩
  refine ⟨by omega, fun w => ?_, fun w => ?_⟩
  · refine ⟨_, hS, ?_⟩
    refine ⟨by omega, ?_⟩
    have e : rsN op B n = M a 12 % M 18 16 := by
      rw [h12, h16]
      exact if_pos (by omega)
    rw [e] at k
    exact k
  · have e : rsN op B n = 0 := if_neg (by omega)
    rw [e] at k
    exact k
theorem rsN_r {n : Int} (hn : 0 ≤ n) (hB : 1 ≤ B) : 0 ≤ rsN op B n ∧ rsN op B n ≤ n ∧ rsN op B n < B := by
  have a := Int.emod_nonneg n (show B ≠ 0 by omega)
  have b := Int.emod_lt_of_pos n (show 0 < B by omega)
  have c : n % B ≤ n := by
    by_cases q : n < B
    · rw [Int.emod_eq_of_lt hn q]
      omega
    · omega
  unfold rsN
  split <;> omega
theorem fbCount_Y {a : Nat} {h9 t9 : Option Nat} {n : Int} (hS : shp sh a = some (.inr (3, nodeFl h9 t9))) (h12 : M a 12 = n) (hn : 0 ≤ n ∧ n ≤ 65536) (h16 : M 18 16 = B) (hB : 1 ≤ B ∧ B ≤ 65536) (h17 : M 18 17 = op) (hop : 0 ≤ op ∧ op ≤ 15) (k : K (some (ti (bkN op B n))) (sh, M, nx, zl)) : fm_Y (d + 2) 66 [.ref 18, .ref a] (sh, M, nx, zl) K := by
  have r := rsN_r (op := op) hn.1 hB.1
  refine m66 [fx 18, gr a] ?_
  refine ⟨_, hS, ?_⟩
  refine restOf_Y hS h12 hn h16 hB h17 hop ?_
  refine ⟨by omega, ?_⟩
  have e : bkN op B n = (M a 12 - rsN op B n + M 18 16 - 1) / M 18 16 := by
    rw [h12, h16]
    rfl
  rw [e] at k
  exact k
end BLK
