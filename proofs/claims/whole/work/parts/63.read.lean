/-! CONTRACTS: numbers in the class's rows -/
def r2 (f : Int → Int) (s p : Int) : Int := if 0 ≤ p ∧ p + 2 ≤ s then le f p 2 else 0
def r4 (f : Int → Int) (s p : Int) : Int := if 0 ≤ p ∧ p + 4 ≤ s then s32 (le f p 4) else 0
def r8 (f : Int → Int) (s p : Int) : Int := if 0 ≤ p ∧ p + 8 ≤ s then s64 (le f p 8) else 0
section READ
variable {d nx sl a b n : Nat} {K : Option TV → FH → Prop} {sh : Nat → Option Shp} {M : FM} {x p s o : Int} {f : Int → Int}
theorem two_Y (hr : rowS sh a b n) (hp : -2147483648 ≤ p ∧ p ≤ 2147483647) (h0 : 0 ≤ M a 1) (h1 : M a 1 ≤ n) (k : K (some (ti (r2 (M b) (M a 1) p))) (sh, M, nx, sl)) : fm_Y (d + 1) 129 [.ref a, .int (Int32.ofInt p)] (sh, M, nx, sl) K := by
  obtain ⟨⟨ha, hb⟩, a3, b3, hab, hn⟩ := hr
  refine m129 [gr a, ti p] ?_
  refine ⟨by omega, fun hc => ?_, fun hc => ?_⟩
  · have e : r2 (M b) (M a 1) p = 0 := if_neg (by omega)
    rw [e] at k
    exact k
  refine ⟨_, ha, ?_⟩
  refine ⟨by omega, fun h2 => ?_, fun h2 => ?_⟩
  · have e : r2 (M b) (M a 1) p = le (M b) p 2 := if_pos (by omega)
    rw [e] at k
    refine ⟨_, ha, ?_⟩
    refine ⟨n, hb, by omega, ?_⟩
    refine ⟨_, ha, ?_⟩
    refine ⟨n, hb, by omega, ?_⟩
    exact ⟨_, i32_or (k := 8) (by omega) rfl (by rw [le_2]; omega) (by omega) (by omega), k⟩
  · have e : r2 (M b) (M a 1) p = 0 := if_neg (by omega)
    rw [e] at k
    exact k
theorem four_Y (hr : rowS sh a b n) (hp : -2147483648 ≤ p ∧ p ≤ 2147483647) (h0 : 0 ≤ M a 1) (h1 : M a 1 ≤ n) (k : K (some (ti (r4 (M b) (M a 1) p))) (sh, M, nx, sl)) : fm_Y (d + 1) 61 [.ref a, .int (Int32.ofInt p)] (sh, M, nx, sl) K := by
  obtain ⟨⟨ha, hb⟩, a3, b3, hab, hn⟩ := hr
  refine m61 [gr a, ti p] ?_
  refine ⟨by omega, fun hc => ?_, fun hc => ?_⟩
  · have e : r4 (M b) (M a 1) p = 0 := if_neg (by omega)
    rw [e] at k
    exact k
  refine ⟨_, ha, ?_⟩
  refine ⟨by omega, fun h2 => ?_, fun h2 => ?_⟩
  · have e : r4 (M b) (M a 1) p = s32 (le (M b) p 4) := if_pos (by omega)
    rw [e] at k
    refine ⟨_, ha, ?_⟩
    refine ⟨n, hb, by omega, ?_⟩
    refine ⟨_, ha, ?_⟩
    refine ⟨n, hb, by omega, ?_⟩
    refine ⟨_, i32_or (k := 8) (by omega) rfl rfl (by omega) (by omega), ?_⟩
    refine ⟨_, ha, ?_⟩
    refine ⟨n, hb, by omega, ?_⟩
    refine ⟨_, i32_or (k := 16) (by omega) rfl rfl (by omega) (by omega), ?_⟩
    refine ⟨_, ha, ?_⟩
    refine ⟨n, hb, by omega, ?_⟩
    exact ⟨_, i32_or (k := 24) (by omega) rfl (by rw [le_4]; unfold s32; omega) (by omega) (by omega), k⟩
  · have e : r4 (M b) (M a 1) p = 0 := if_neg (by omega)
    rw [e] at k
    exact k
theorem eight_Y (hr : rowS sh a b n) (hp : -2147483648 ≤ p ∧ p ≤ 2147483647) (h0 : 0 ≤ M a 1) (h1 : M a 1 ≤ n) (k : K (some (tj (r8 (M b) (M a 1) p))) (sh, M, nx, sl)) : fm_Y (d + 1) 130 [.ref a, .int (Int32.ofInt p)] (sh, M, nx, sl) K := by
  obtain ⟨⟨ha, hb⟩, a3, b3, hab, hn⟩ := hr
  refine m130 [gr a, ti p] ?_
  by_cases hin : 0 ≤ p ∧ p + 8 ≤ M a 1
  · have e : r8 (M b) (M a 1) p = s64 (le (M b) p 8) := if_pos hin
    rw [e] at k
    have L : ∀ (N : Nat) (i v : Int), i < N → 0 ≤ i → i < 8 → v = le (M b) (p + i + 1) (7 - i).toNat → fm_X d kd130 6 [some (gr a), some (ti p), some (tj v), none, some (ti i)] [] (sh, M, nx, sl) K := by
      intro N
      induction N with
      | zero => intro i v h1 h2; omega
      | succ N ih =>
        intro i v h1 h2 h3 hv
        refine s130_6 d K _ _ _ ?_
        refine ⟨by omega, fun q => by omega, fun q => ?_⟩
        refine ⟨by omega, fun q => by omega, fun q => ?_⟩
        refine ⟨_, ha, ?_⟩
        refine ⟨by omega, fun q => by omega, fun q => ?_⟩
        refine ⟨_, ha, ?_⟩
        refine ⟨n, hb, by omega, ?_⟩
        refine ⟨by omega, ?_⟩
        have e : le (M b) (p + i) (7 - (i - 1)).toNat = M b (p + i) % 256 + v * 256 := by
          rw [show ((7 : Int) - (i - 1)).toNat = ((7 : Int) - i).toNat + 1 by omega]
          show M b (p + i) % 256 + 256 * le (M b) (p + i + 1) ((7 : Int) - i).toNat = _
          rw [hv]
          omega
        by_cases hj : i = 0
        · subst hj
          refine ⟨s64 (le (M b) p 8), ?_, ?_⟩
          · rw [← s64_of]
            refine i64_or2 (k := 8) (by omega) rfl ?_ (by omega) (by omega)
            rw [show ((7 : Int) - (0 - 1)).toNat = 8 by omega, Int.add_zero] at e
            rw [e, Int.add_zero]
          · refine s130_6 d K _ _ _ ?_
            exact ⟨by omega, fun q => k, fun q => by omega⟩
        · refine ⟨_, i64_or2 (k := 8) (by omega) rfl e (by omega) (by omega), ?_⟩
          exact ih (i + -1) _ (by omega) (by omega) (by omega) (by rw [show p + (i + -1) + 1 = p + i by omega]; rfl)
    exact L 8 7 0 (by omega) (by omega) (by omega) rfl
  · have e : r8 (M b) (M a 1) p = 0 := if_neg hin
    rw [e] at k
    refine s130_6 d K _ _ _ ?_
    refine ⟨by omega, fun q => by omega, fun q => ?_⟩
    refine ⟨by omega, fun q => k, fun q => ?_⟩
    refine ⟨_, ha, ?_⟩
    exact ⟨by omega, fun q => k, fun q => by omega⟩
/-- eight bytes of a row, 0 behind its end -/
def wd (f : Int → Int) (s i : Int) (k : Int) : Int := if 0 ≤ i ∧ 8 * i + k < s then f (8 * i + k) % 256 else 0
def wd8 (f : Int → Int) (s i : Int) : Int := wd f s i 0 + 256 * wd f s i 1 + 65536 * wd f s i 2 + 16777216 * wd f s i 3 + 4294967296 * wd f s i 4 + 1099511627776 * wd f s i 5 + 281474976710656 * wd f s i 6 + 72057594037927936 * wd f s i 7
theorem wd_r (f : Int → Int) (s i k : Int) : 0 ≤ wd f s i k ∧ wd f s i k < 256 := by unfold wd; split <;> omega
theorem word_Y (hr : rowS sh a b n) (hp : -2147483648 ≤ p ∧ p ≤ 2147483647) (h0 : 0 ≤ M a 1) (h1 : M a 1 ≤ n) (hn8 : n ≤ 200000) (k : K (some (tj (wd8 (M b) (M a 1) p))) (sh, M, nx, sl)) : fm_Y (d + 1) 23 [.ref a, .int (Int32.ofInt p)] (sh, M, nx, sl) K := by
  obtain ⟨⟨ha, hb⟩, a3, b3, hab, hn⟩ := hr
  refine m23 [gr a, ti p] ?_
  have B : ∀ (v i q : Int), 0 ≤ i → i < 8 → 0 ≤ v → v < q → q = 2 ^ (8 * i).toNat → fm_X d kd23 5 [some (gr a), some (ti p), some (tj (v + wd (M b) (M a 1) p i * q)), none, some (ti (i + 1))] [] (sh, M, nx, sl) K → fm_X d kd23 5 [some (gr a), some (ti p), some (tj v), none, some (ti i)] [] (sh, M, nx, sl) K := by
    intro v i q h2 h3 h4 h5 h6 z
    refine s23_5 d K _ _ _ ?_
    refine ⟨by omega, fun w => by omega, fun w => ?_⟩
    by_cases hin : 0 ≤ p ∧ 8 * p + i < M a 1
    · have e : wd (M b) (M a 1) p i = M b (8 * p + i) % 256 := if_pos hin
      rw [e] at z
      refine ⟨by omega, fun w => by omega, fun w => ?_⟩
      refine ⟨_, ha, ?_⟩
      refine ⟨by omega, ?_⟩
      refine ⟨by omega, fun w => by omega, fun w => ?_⟩
      refine ⟨_, ha, ?_⟩
      refine ⟨by omega, fun w => by omega, fun w => ?_⟩
      refine ⟨_, ha, ?_⟩
      refine ⟨n, hb, by omega, ?_⟩
      refine ⟨by omega, ?_⟩
      refine ⟨by omega, ?_⟩
      refine ⟨v + M b (8 * p + i) % 256 * q, ?_, z⟩
      rw [h6] at h5 ⊢
      rw [show ((M b (8 * p + i) + 128) % 256 - 128) % 256 = M b (8 * p + i) % 256 by omega]
      exact i64_or (k := (8 * i).toNat) (by omega) rfl rfl h4 h5
    · have e : wd (M b) (M a 1) p i = 0 := if_neg hin
      rw [e, Int.zero_mul, Int.add_zero] at z
      refine ⟨by omega, fun w => z, fun w => ?_⟩
      refine ⟨_, ha, ?_⟩
      refine ⟨by omega, ?_⟩
      refine ⟨by omega, fun w => z, fun w => ?_⟩
      refine ⟨_, ha, ?_⟩
      exact ⟨by omega, fun w => z, fun w => by omega⟩
  have q0 := wd_r (M b) (M a 1) p 0
  have q1 := wd_r (M b) (M a 1) p 1
  have q2 := wd_r (M b) (M a 1) p 2
  have q3 := wd_r (M b) (M a 1) p 3
  have q4 := wd_r (M b) (M a 1) p 4
  have q5 := wd_r (M b) (M a 1) p 5
  have q6 := wd_r (M b) (M a 1) p 6
  have q7 := wd_r (M b) (M a 1) p 7
  refine B 0 0 1 (by omega) (by omega) (by omega) (by omega) (by decide) ?_
  refine B _ 1 256 (by omega) (by omega) (by omega) (by omega) (by decide) ?_
  refine B _ 2 65536 (by omega) (by omega) (by omega) (by omega) (by decide) ?_
  refine B _ 3 16777216 (by omega) (by omega) (by omega) (by omega) (by decide) ?_
  refine B _ 4 4294967296 (by omega) (by omega) (by omega) (by omega) (by decide) ?_
  refine B _ 5 1099511627776 (by omega) (by omega) (by omega) (by omega) (by decide) ?_
  refine B _ 6 281474976710656 (by omega) (by omega) (by omega) (by omega) (by decide) ?_
  refine B _ 7 72057594037927936 (by omega) (by omega) (by omega) (by omega) (by decide) ?_
  refine s23_5 d K _ _ _ ?_
  refine ⟨by omega, fun w => ?_, fun w => by omega⟩
  rw [show wd8 (M b) (M a 1) p = 0 + wd (M b) (M a 1) p 0 * 1 + wd (M b) (M a 1) p 1 * 256 + wd (M b) (M a 1) p 2 * 65536 + wd (M b) (M a 1) p 3 * 16777216 + wd (M b) (M a 1) p 4 * 4294967296 + wd (M b) (M a 1) p 5 * 1099511627776 + wd (M b) (M a 1) p 6 * 281474976710656 + wd (M b) (M a 1) p 7 * 72057594037927936 by unfold wd8; omega] at k
  exact k
/-- the reference's eight -/
theorem meight_Y {p : Int} (hs : shp sh a = some (.inl (.byte, n))) (hp : -2147483648 ≤ p ∧ p ≤ 2147483647) (h0 : 0 ≤ s) (h1 : s ≤ n) (hn8 : n ≤ 200000) (k : K (some (tj (wd8 (M a) s p))) (sh, M, nx, sl)) : fm_Y (d + 1) 244 [.ref a, .int (Int32.ofInt s), .int (Int32.ofInt p)] (sh, M, nx, sl) K := by
  refine m244 [gr a, ti s, ti p] ?_
  refine ⟨by omega, ?_⟩
  by_cases hneg : p < 0
  · have e : ∀ i, wd (M a) s p i = 0 := fun i => if_neg (by omega)
    have e2 : wd8 (M a) s p = 0 := by unfold wd8; rw [e, e, e, e, e, e, e, e]; omega
    rw [e2] at k
    refine s244_14 d K _ _ _ ?_
    refine ⟨by omega, ?_⟩
    refine ⟨by omega, fun w => by omega, fun w => ?_⟩
    exact ⟨by omega, fun w => k, fun w => by omega⟩
  have B : ∀ (v i : Int), 0 ≤ i → i < 8 → fm_X d kd244 14 [some (gr a), some (ti s), some (ti p), some (tj (wd (M a) s p i + v * 256)), none, some (tj (8 * p + i - 1)), none] [] (sh, M, nx, sl) K → fm_X d kd244 14 [some (gr a), some (ti s), some (ti p), some (tj v), none, some (tj (8 * p + i)), none] [] (sh, M, nx, sl) K := by
    intro v i h2 h3 z
    refine s244_14 d K _ _ _ ?_
    refine ⟨by omega, ?_⟩
    refine ⟨by omega, fun w => by omega, fun w => ?_⟩
    refine ⟨by omega, fun w => by omega, fun w => ?_⟩
    refine ⟨by omega, ?_⟩
    refine ⟨by omega, fun w => ?_, fun w => ?_⟩
    · have e : wd (M a) s p i = 0 := if_neg (by omega)
      rw [e] at z
      refine ⟨by omega, ?_⟩
      exact ⟨_, i64_or2 (k := 8) (by omega) rfl rfl (by omega) (by omega), z⟩
    · have e : wd (M a) s p i = M a (8 * p + i) % 256 := if_pos (by omega)
      rw [e] at z
      refine ⟨n, hs, by omega, ?_⟩
      refine ⟨by omega, ?_⟩
      exact ⟨_, i64_or2 (k := 8) (by omega) rfl rfl (by omega) (by omega), z⟩
  refine B 0 7 (by omega) (by omega) ?_
  rw [show 8 * p + 7 - 1 = 8 * p + 6 by omega]
  refine B _ 6 (by omega) (by omega) ?_
  rw [show 8 * p + 6 - 1 = 8 * p + 5 by omega]
  refine B _ 5 (by omega) (by omega) ?_
  rw [show 8 * p + 5 - 1 = 8 * p + 4 by omega]
  refine B _ 4 (by omega) (by omega) ?_
  rw [show 8 * p + 4 - 1 = 8 * p + 3 by omega]
  refine B _ 3 (by omega) (by omega) ?_
  rw [show 8 * p + 3 - 1 = 8 * p + 2 by omega]
  refine B _ 2 (by omega) (by omega) ?_
  rw [show 8 * p + 2 - 1 = 8 * p + 1 by omega]
  refine B _ 1 (by omega) (by omega) ?_
  rw [show 8 * p + 1 - 1 = 8 * p + 0 by omega]
  refine B _ 0 (by omega) (by omega) ?_
  refine s244_14 d K _ _ _ ?_
  refine ⟨by omega, ?_⟩
  refine ⟨by omega, fun w => ?_, fun w => by omega⟩
  rw [show wd8 (M a) s p = wd (M a) s p 0 + (wd (M a) s p 1 + (wd (M a) s p 2 + (wd (M a) s p 3 + (wd (M a) s p 4 + (wd (M a) s p 5 + (wd (M a) s p 6 + (wd (M a) s p 7 + 0 * 256) * 256) * 256) * 256) * 256) * 256) * 256) * 256 by unfold wd8; omega] at k
  exact k
end READ
