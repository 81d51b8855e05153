/-! MOUNTING: what the rows of pieces look like -/
def shR (R S : List Int) : Prop := (R.length ≤ 8192 * S.length ∧ 8192 * S.length < R.length + 8192) ∧ (∀ i : Int, 0 ≤ i → i < S.length → 0 ≤ lf S i ∧ lf S i ≤ 131072) ∧ (∀ i j : Int, 0 ≤ i → i < j → j < S.length → lf S i < lf S j)
theorem lf_app {S : List Int} {x : Int} {i : Int} (h0 : 0 ≤ i) (h : i < S.length) : lf (S ++ [x]) i = lf S i := by
  unfold lf
  rw [app_get, if_pos (by omega)]
theorem lf_app2 {S : List Int} {x : Int} : lf (S ++ [x]) S.length = x := by
  unfold lf
  rw [app_get, if_neg (by omega), if_pos (by omega)]
  rfl
theorem rdG_sh {f : Int → Int} {a m : Int} {cap : Nat} {R2 S2 : List Int} (ha : 0 ≤ a) (hm : m ≤ 131072) : ∀ (g : Nat) (p : Int) (R S : List Int), a ≤ p → p ≤ m → pcG f m g p → shR R S → (∀ i : Int, 0 ≤ i → i < S.length → lf S i < p - a) → rdG f a m cap g p R S = some (R2, S2) → shR R2 S2
  | 0, p, R, S, _, _, _, _, _, h => by cases h
  | g + 1, p, R, S, h0, h1, hpc, hs, hb, h => by
    have h3 : (if m ≤ p then some (R, S) else if R.length ≠ 8192 * S.length ∨ cap ≤ S.length then none else match pbS f p with
      | none => none
      | some o => rdG f a m cap g (p + 2 + le f p 2 % 32768) (R ++ o) (S ++ [p - a])) = some (R2, S2) := h
    by_cases c1 : m ≤ p
    · rw [if_pos c1] at h3
      injection h3 with h3
      injection h3 with h4 h5
      rw [← h4, ← h5]
      exact hs
    · rw [if_neg c1] at h3
      by_cases c2 : R.length ≠ 8192 * S.length ∨ cap ≤ S.length
      · rw [if_pos c2] at h3
        cases h3
      · rw [if_neg c2] at h3
        have hpe : pcG f m g (pE f p m) := by
          rcases hpc with z | z
          · omega
          · exact z.2.2
        have hpos : pE f p m = p + 2 + le f p 2 % 32768 ∧ (p + 2 ≤ m ∧ 1 ≤ le f p 2 % 32768 ∧ le f p 2 % 32768 ≤ 8192 ∧ p + 2 + le f p 2 % 32768 ≤ m) := by
          by_cases c : p + 2 ≤ m ∧ 1 ≤ le f p 2 % 32768 ∧ le f p 2 % 32768 ≤ 8192 ∧ p + 2 + le f p 2 % 32768 ≤ m
          · exact ⟨if_pos c, c⟩
          · have e : pE f p m = -1 := if_neg c
            rw [e] at hpe
            cases g with
            | zero => exact absurd hpe id
            | succ g =>
              rcases hpe with z | z
              · omega
              · omega
        obtain ⟨hE, hq1, hq2, hq3, hq4⟩ := hpos
        rw [hE] at hpe
        cases hbv : pbS f p with
        | none =>
          rw [hbv] at h3
          cases h3
        | some o =>
          rw [hbv] at h3
          have ol : 1 ≤ o.length ∧ o.length ≤ 8192 := by
            unfold pbS at hbv
            split at hbv
            · injection hbv with hbv
              rw [← hbv, sl_len]
              omega
            · cases hu : unS f (p + 2) (le f p 2 % 32768) 8192 with
              | none =>
                rw [hu] at hbv
                cases hbv
              | some o2 =>
                rw [hu] at hbv
                have z := unS_len hu
                dsimp only at hbv
                split at hbv
                · cases hbv
                · injection hbv with hbv
                  rw [← hbv]
                  omega
          have h6 : rdG f a m cap g (p + 2 + le f p 2 % 32768) (R ++ o) (S ++ [p - a]) = some (R2, S2) := h3
          obtain ⟨⟨s1, s2⟩, s3, s4⟩ := hs
          have lS : (S ++ [p - a]).length = S.length + 1 := by simp
          have lR : (R ++ o).length = R.length + o.length := List.length_append
          refine rdG_sh ha hm g _ _ _ (by omega) (by omega) hpe ⟨?_, fun i i0 i1 => ?_, fun i j i0 i1 i2 => ?_⟩ (fun i i0 i1 => ?_) h6
          · rw [lS, lR]
            omega
          · rw [lS] at i1
            by_cases e : i = S.length
            · rw [e, lf_app2]
              omega
            · rw [lf_app i0 (by omega)]
              exact s3 i i0 (by omega)
          · rw [lS] at i2
            rw [lf_app i0 (by omega)]
            by_cases e : j = S.length
            · rw [e, lf_app2]
              exact hb i i0 (by omega)
            · rw [lf_app (by omega) (by omega)]
              exact s4 i j i0 i1 (by omega)
          · rw [lS] at i1
            by_cases e : i = S.length
            · rw [e, lf_app2]
              omega
            · rw [lf_app i0 (by omega)]
              have := hb i i0 (by omega)
              omega
theorem rd_sh {f : Int → Int} {a m : Int} {cap : Nat} {R S : List Int} (ha : 0 ≤ a ∧ a ≤ m) (hm : m ≤ 131072) (hpc : pcs f a m) (h : rdS f a m cap = some (R, S)) : shR R S := by
  refine rdG_sh (cap := cap) ha.1 hm _ a [] [] (Int.le_refl _) ha.2 hpc ⟨by decide, fun i i0 i1 => ?_, fun i j i0 i1 i2 => ?_⟩ (fun i i0 i1 => ?_) h
  · have : i < (0 : Int) := i1
    omega
  · have : j < (0 : Int) := i2
    omega
  · have : i < (0 : Int) := i1
    omega
/-- place o of the piece that begins at s is x -/
def fl (S : List Int) (N s o x : Int) : Prop := ∃ i : Int, (0 ≤ i ∧ i < S.length) ∧ lf S i = s ∧ (0 ≤ o ∧ o < 8192) ∧ x = 8192 * i + o ∧ x < N
theorem fl_one {R S : List Int} {N s o x y : Int} (hs : shR R S) (h : fl S N s o x) (h2 : fl S N s o y) : x = y := by
  obtain ⟨i, i1, i2, i3, i4, i5⟩ := h
  obtain ⟨j, j1, j2, j3, j4, j5⟩ := h2
  have : i = j := by
    by_cases c : i < j
    · have := hs.2.2 i j i1.1 c j1.2
      omega
    · by_cases c2 : j < i
      · have := hs.2.2 j i j1.1 c2 i1.2
        omega
      · omega
  omega
def xpP (x : Int → Int) (S : List Int) (n : Int) (pl : Int → Int) : Prop := ∀ j : Int, 1 ≤ j → j ≤ n → s64 (le x (8 * j - 8) 8) = 65536 * lf S (pl j / 8192) + pl j % 8192
theorem lushr16 (x : Int) : ((Int64.ofInt x).toUInt64 >>> ((Int32.ofInt 16).toInt64.toUInt64 &&& Int64.toUInt64 63)).toInt64 = Int64.ofInt (x % 18446744073709551616 / 65536) := by
  apply Int64.toBitVec_inj.1
  rw [Int64.toBitVec_ofInt]
  have e : ((Int64.ofInt x).toUInt64 >>> ((Int32.ofInt 16).toInt64.toUInt64 &&& Int64.toUInt64 63)).toInt64.toBitVec = (BitVec.ofInt 64 x) >>> 16 := rfl
  rw [e]
  apply BitVec.eq_of_toNat_eq
  rw [BitVec.toNat_ushiftRight, BitVec.toNat_ofInt, BitVec.toNat_ofInt, Nat.shiftRight_eq_div_pow]
  have e2 : ((2 ^ 64 : Nat) : Int) = 18446744073709551616 := by decide
  have e3 : (2 ^ 16 : Nat) = 65536 := by decide
  rw [e2, e3]
  omega
