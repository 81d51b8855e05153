/-! CALLS of both: drop, the reference, whole -/
section MDROP4
variable {d nx zl : Nat} {K : Option TV → FH → Prop} {sh : Nat → Option Shp} {M : FM} {F : Int}
theorem mdrop_Y (hW : twR M) (hn : 0 ≤ M 168 1 ∧ M 168 1 ≤ 16384) (hF : -2147483648 ≤ F ∧ F ≤ 2147483647)
    (kB : ¬ (okN M F ∧ nmF (M 169) 0 (M 168 1)) → K (some (ti (-1))) (sh, utM M, nx, zl))
    (kN : okN M F → nmF (M 169) 0 (M 168 1) → M 171 F ≠ 1 → K (some (ti (-4))) (sh, utM M, nx, zl))
    (kM : okN M F → nmF (M 169) 0 (M 168 1) → M 171 F = 1 → ∀ p, isLB M p F (sl (M 169) 0 (M 168 1).toNat) → ¬ thr M p F (sl (M 169) 0 (M 168 1).toNat) → K (some (ti (-2))) (sh, utM M, nx, zl))
    (kE : okN M F → nmF (M 169) 0 (M 168 1) → M 171 F = 1 → ∀ p, isLB M p F (sl (M 169) 0 (M 168 1).toNat) → thr M p F (sl (M 169) 0 (M 168 1).toNat) → 0 < cnt (M 183) (M 168 20).toNat (M 184 p) → K (some (ti (-5))) (sh, utM M, nx, zl))
    (kO : okN M F → nmF (M 169) 0 (M 168 1) → M 171 F = 1 → ∀ p, isLB M p F (sl (M 169) 0 (M 168 1).toNat) → thr M p F (sl (M 169) 0 (M 168 1).toNat) → cnt (M 183) (M 168 20).toNat (M 184 p) = 0 → ∀ M2 : FM, mdF (utM M) M2 p (M 184 p) (M 186 p) → (M 177 (M 184 p) ≠ 1 → K (some (ti (M 184 p))) (sh, M2, nx, zl)) ∧ (M 177 (M 184 p) = 1 → fm_Y (d + 2) 257 [.ref 168, .int (Int32.ofInt (M 184 p))] (sh, M2, nx, zl) (fun w H2 => w = none ∧ K (some (ti (M 184 p))) H2))) : fm_Y (d + 3) 255 [.ref 168, .int (Int32.ofInt F)] (sh, M, nx, zl) K := by
  refine m255 [fx 168, ti F] ?_
  refine muse_Y ?_
  have hW' : twR (utM M) := hW
  have hNr := hW.1.1
  have hEr := hW.2.2.2.1.1
  refine misNode_Y hW' hF (fun f0 f1 f2 => ?_) (fun hF9 => ?_)
  · refine ⟨by omega, fun z => by omega, fun _ => ?_⟩
    have f1' : F < M 168 5 := f1
    have kf := (hW.1.2 F f0 f1').1
    have kf' : -2147483648 ≤ utM M 171 F ∧ utM M 171 F ≤ 2147483647 ∧ (-2147483648 : Int) ≤ 1 ∧ (1 : Int) ≤ 2147483647 := by
      show -2147483648 ≤ M 171 F ∧ M 171 F ≤ 2147483647 ∧ _
      omega
    refine misName_Y (a := 169) (na := 16384) rfl (by omega) (by omega) (by omega) (by omega) (by omega) (by omega) (fun hnm => ?_) (fun hnm => ?_)
    · refine ⟨by omega, fun _ => ?_, fun z => by omega⟩
      refine ⟨by omega, ?_⟩
      refine ⟨kf', fun w2 => ?_, fun w2 => kN ⟨f0, f1, f2⟩ hnm w2⟩
      refine mplaceOf_Y hW' hF hn.1 hn.2 (fun p hp => ?_)
      have hp1 : 0 ≤ p ∧ p ≤ M 168 20 := hp.1
      refine misThere_Y hW' hF hp1 hn.1 hn.2 (fun q1 q2 q3 => ?_) (fun q => ?_)
      · refine ⟨by omega, fun _ => ?_, fun z => by omega⟩
        have q1' : p < M 168 20 := q1
        have hq := hW.2.2.2.1.2 p hp1.1 q1'
        have e6 : M 168 1 = M 186 p := by
          have z : (sl (M 187) (M 185 p) (M 186 p).toNat).length = (sl (M 169) 0 (M 168 1).toNat).length := congrArg List.length q3
          rw [sl_len, sl_len] at z
          have := hq.2.2.1
          omega
        refine ⟨by omega, ?_⟩
        exact md71 (d := d + 1) (n := M 168 1) hW' hp1.1 q1 e6 (fun g => kE ⟨f0, f1, f2⟩ hnm w2 p hp ⟨q1, q2, q3⟩ g) (fun g M2 hM => kO ⟨f0, f1, f2⟩ hnm w2 p hp ⟨q1, q2, q3⟩ g M2 (by rw [← e6]; exact hM)) ((M 168 20).toNat + 1) 0 (by show (M 168 20 - 0).toNat < _; omega) (by omega) (by show (0 : Int) ≤ M 168 20; omega) (fun j hj => by omega)
      · refine ⟨by omega, fun z => by omega, fun _ => ?_⟩
        exact kM ⟨f0, f1, f2⟩ hnm w2 p hp q
    · refine ⟨by omega, fun z => by omega, fun _ => ?_⟩
      exact kB (fun z => hnm z.2)
  · exact ⟨by omega, fun _ => kB (fun z => hF9 z.1), fun z => by omega⟩
end MDROP4
