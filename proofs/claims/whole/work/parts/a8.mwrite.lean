/-! CALLS of both: write and fill, the reference -/
def mwF (M M3 : FM) (i n : Int) (g : Int → Int) : Prop := ∃ M2 : FM, meF M M2 i n ∧ (∀ c : Nat, c ≠ 181 → M3 c = M2 c) ∧ (∀ j : Int, (j < exA M i + M 180 i ∨ exA M i + M 180 i + n ≤ j) → M3 181 j = M2 181 j) ∧ ∀ j : Int, 0 ≤ j → j < n → M3 181 (exA M i + M 180 i + j) % 256 = g j % 256
section MWRITE
variable {d nx zl : Nat} {K : Option TV → FH → Prop} {sh : Nat → Option Shp} {M : FM} {F : Int}
theorem exA_rng (hW : twR M) {i : Int} (h0 : 0 ≤ i) (h1 : i < M 168 5) (hk : M 171 i = 2) : 0 ≤ exA M i ∧ 0 ≤ M 180 i ∧ exA M i + M 180 i ≤ M 168 17 := by
  have hB := hW.2.1.1
  have bi := hW.2.1.2 i h0 h1
  have bi2 := bi.2.1 hk
  unfold exA
  split <;> omega
theorem mwrite_Y (hW : twR M) (hn : 0 ≤ M 168 1 ∧ M 168 1 ≤ 16384) (hF : -2147483648 ≤ F ∧ F ≤ 2147483647)
    (kB : ¬ (okN M F ∧ M 171 F = 2) → K (some (ti (-1))) (sh, utM M, nx, zl))
    (kF : okN M F → M 171 F = 2 → 65536 < M 168 17 + M 168 1 → K (some (ti (-6))) (sh, utM M, nx, zl))
    (kO : okN M F → M 171 F = 2 → M 168 17 + M 168 1 ≤ 65536 → ∀ M3 : FM, mwF (utM M) M3 F (M 168 1) (M 169) → K (some (ti (M 180 F + M 168 1))) (sh, M3, nx, zl)) : fm_Y (d + 2) 258 [.ref 168, .int (Int32.ofInt F)] (sh, M, nx, zl) K := by
  refine m258 [fx 168, ti F] ?_
  refine muse_Y ?_
  have hW' : twR (utM M) := hW
  have hNr := hW.1.1
  have hBr := hW.2.1.1
  refine misNode_Y hW' hF (fun f0 f1 f2 => ?_) (fun hF9 => ?_)
  · refine ⟨by omega, fun z => by omega, fun _ => ?_⟩
    have f1' : F < M 168 5 := f1
    have kf := (hW.1.2 F f0 f1').1
    have kf' : -2147483648 ≤ utM M 171 F ∧ utM M 171 F ≤ 2147483647 ∧ (-2147483648 : Int) ≤ 2 ∧ (2 : Int) ≤ 2147483647 := by
      show -2147483648 ≤ M 171 F ∧ M 171 F ≤ 2147483647 ∧ _
      omega
    refine ⟨by omega, ?_⟩
    refine ⟨kf', fun w2 => ?_, fun w2 => kB (fun z => w2 z.2)⟩
    have w2' : M 171 F = 2 := w2
    have xr := exA_rng hW' f0 f1 w2
    have xr' : 0 ≤ exA (utM M) F ∧ 0 ≤ M 180 F ∧ exA (utM M) F + M 180 F ≤ M 168 17 := xr
    have s17 : utM M 168 17 = M 168 17 := rfl
    have s180 : utM M 180 F = M 180 F := rfl
    refine ⟨by rw [s17]; omega, fun w3 => ?_, fun w3 => kF ⟨f0, f1, f2⟩ w2 (by rw [s17] at w3; omega)⟩
    have w3' : M 168 17 + M 168 1 ≤ 65536 := w3
    refine mextend_Y hW' ⟨f0, f1⟩ w2 hn.1 w3 (fun M2 hM => ?_)
    have e169 : M2 169 = M 169 := hM.2.2.2.2 169 (by decide) (by decide) (by decide) (by decide)
    have e180 : M2 180 = ur (M 180) F (M 180 F + M 168 1) := hM.2.1
    have Lp : ∀ (N : Nat) (j : Int) (M3 : FM), (M 168 1 - j).toNat < N → 0 ≤ j → j ≤ M 168 1 → (∀ c : Nat, c ≠ 181 → M3 c = M2 c) → (∀ q : Int, (q < exA (utM M) F + M 180 F ∨ exA (utM M) F + M 180 F + M 168 1 ≤ q) → M3 181 q = M2 181 q) → (∀ q : Int, 0 ≤ q → q < j → M3 181 (exA (utM M) F + M 180 F + q) % 256 = M 169 q % 256) → fm_X (d + 1) kd258 49 [some (fx 168), some (ti F), some (ti (M 168 1)), some (ti (exA (utM M) F + M 180 F)), some (ti j)] [] (sh, M3, nx, zl) K := by
      intro N
      induction N with
      | zero => intro j M3 q1; omega
      | succ N ih =>
        intro j M3 q1 q2 q3 q4 q5 q6
        refine s258_49 (d + 1) K _ _ _ ?_
        refine ⟨by omega, fun v => ?_, fun v => ?_⟩
        · refine ⟨by omega, ?_⟩
          have e : M3 180 F = M 180 F + M 168 1 := by rw [q4 180 (by decide), e180, ur_at]
          have z := kO ⟨f0, f1, f2⟩ w2 w3 M3 ⟨M2, hM, q4, q5, fun q a b => q6 q a (by omega)⟩
          rw [← e] at z
          exact z
        · have e9 : M3 169 = M 169 := by rw [q4 169 (by decide), e169]
          refine ⟨by omega, ?_⟩
          refine ⟨by omega, ?_⟩
          refine ih (j + 1) _ (by omega) (by omega) (by omega) ?_ ?_ ?_
          · intro c hc
            rw [um_ne hc]
            exact q4 c hc
          · intro q hq
            rw [um_at, ur_ne (by omega)]
            exact q5 q hq
          · intro q a b
            rw [um_at]
            by_cases e : q = j
            · rw [e, ur_at, e9]
              omega
            · rw [ur_ne (by omega)]
              exact q6 q a (by omega)
    exact Lp ((M 168 1).toNat + 1) 0 M2 (by omega) (by omega) (by omega) (fun _ _ => rfl) (fun _ _ => rfl) (fun q a b => by omega)
  · exact ⟨by omega, fun _ => kB (fun z => hF9 z.1), fun z => by omega⟩
theorem mfill_Y {b n : Int} (hW : twR M) (hF : -2147483648 ≤ F ∧ F ≤ 2147483647) (hb : -2147483648 ≤ b ∧ b ≤ 2147483647) (hn : -2147483648 ≤ n ∧ n ≤ 2147483647)
    (kB : ¬ (okN M F ∧ M 171 F = 2 ∧ (0 ≤ b ∧ b ≤ 255 ∧ 1 ≤ n ∧ n ≤ 16384)) → K (some (ti (-1))) (sh, M, nx, zl))
    (kF : okN M F → M 171 F = 2 → (0 ≤ b ∧ b ≤ 255 ∧ 1 ≤ n ∧ n ≤ 16384) → 65536 < M 168 17 + n → K (some (ti (-6))) (sh, M, nx, zl))
    (kO : okN M F → M 171 F = 2 → (0 ≤ b ∧ b ≤ 255 ∧ 1 ≤ n ∧ n ≤ 16384) → M 168 17 + n ≤ 65536 → ∀ M3 : FM, mwF M M3 F n (fun _ => b) → K (some (ti (M 180 F + n))) (sh, M3, nx, zl)) : fm_Y (d + 2) 260 [.ref 168, .int (Int32.ofInt F), .int (Int32.ofInt b), .int (Int32.ofInt n)] (sh, M, nx, zl) K := by
  refine m260 [fx 168, ti F, ti b, ti n] ?_
  have hNr := hW.1.1
  have hBr := hW.2.1.1
  refine misNode_Y hW hF (fun f0 f1 f2 => ?_) (fun hF9 => ?_)
  · refine ⟨by omega, fun z => by omega, fun _ => ?_⟩
    have kf := (hW.1.2 F f0 f1).1
    refine ⟨by omega, ?_⟩
    refine ⟨by omega, fun w => kB (fun z => w z.2.1), fun w => ?_⟩
    refine ⟨by omega, fun v1 => kB (fun z => by omega), fun v1 => ?_⟩
    refine ⟨by omega, fun v2 => kB (fun z => by omega), fun v2 => ?_⟩
    refine ⟨by omega, fun v3 => kB (fun z => by omega), fun v3 => ?_⟩
    refine ⟨by omega, fun v4 => ?_, fun v4 => kB (fun z => by omega)⟩
    have w2 : M 171 F = 2 := by omega
    have xr := exA_rng hW f0 f1 w2
    refine ⟨by omega, fun w3 => ?_, fun w3 => kF ⟨f0, f1, f2⟩ w2 (by omega) (by omega)⟩
    refine mextend_Y hW ⟨f0, f1⟩ w2 (by omega) (by omega) (fun M2 hM => ?_)
    have e180 : M2 180 = ur (M 180) F (M 180 F + n) := hM.2.1
    have Lp : ∀ (N : Nat) (j : Int) (M3 : FM), (n - j).toNat < N → 0 ≤ j → j ≤ n → (∀ c : Nat, c ≠ 181 → M3 c = M2 c) → (∀ q : Int, (q < exA M F + M 180 F ∨ exA M F + M 180 F + n ≤ q) → M3 181 q = M2 181 q) → (∀ q : Int, 0 ≤ q → q < j → M3 181 (exA M F + M 180 F + q) % 256 = b % 256) → fm_X (d + 1) kd260 68 [some (fx 168), some (ti F), some (ti b), some (ti n), some (ti (exA M F + M 180 F)), some (ti j)] [] (sh, M3, nx, zl) K := by
      intro N
      induction N with
      | zero => intro j M3 q1; omega
      | succ N ih =>
        intro j M3 q1 q2 q3 q4 q5 q6
        refine s260_68 (d + 1) K _ _ _ ?_
        refine ⟨by omega, fun v => ?_, fun v => ?_⟩
        · refine ⟨by omega, ?_⟩
          have e : M3 180 F = M 180 F + n := by rw [q4 180 (by decide), e180, ur_at]
          have z := kO ⟨f0, f1, f2⟩ w2 (by omega) (by omega) M3 ⟨M2, hM, q4, q5, fun q a b => q6 q a (by omega)⟩
          rw [← e] at z
          exact z
        · refine ⟨by omega, ?_⟩
          refine ih (j + 1) _ (by omega) (by omega) (by omega) ?_ ?_ ?_
          · intro c hc
            rw [um_ne hc]
            exact q4 c hc
          · intro q hq
            rw [um_at, ur_ne (by omega)]
            exact q5 q hq
          · intro q a b
            rw [um_at]
            by_cases e : q = j
            · rw [e, ur_at]
              omega
            · rw [ur_ne (by omega)]
              exact q6 q a (by omega)
    exact Lp (n.toNat + 1) 0 M2 (by omega) (by omega) (by omega) (fun _ _ => rfl) (fun _ _ => rfl) (fun q a b => by omega)
  · exact ⟨by omega, fun _ => kB (fun z => hF9 z.1), fun z => by omega⟩
end MWRITE
