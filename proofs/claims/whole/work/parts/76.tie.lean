/-! CALLS of both: tie -/
def okN (M : FM) (i : Int) : Prop := 0 ≤ i ∧ i < M 168 5 ∧ live M i
theorem tree_rows {sh : Nat → Option Shp} {M : FM} (hT : treeR sh M) : (∀ k : Int, 0 ≤ k → k < M 8 7 → ∃ (a : Nat) (fl : List (Option (Option Nat))), M 12 k = a ∧ shp sh a = some (.inr (3, fl))) ∧ (∀ k : Int, 0 ≤ k → k < M 8 7 → ∃ (a : Nat) (fl : List (Option (Option Nat))), M 13 k = a ∧ shp sh a = some (.inr (3, fl))) ∧ (∀ k : Int, 0 ≤ k → k < M 8 7 → ∃ (a : Nat) (fl : List (Option (Option Nat))), M 14 k = a ∧ shp sh a = some (.inr (1, fl))) := by
  obtain ⟨hW, ⟨-, a2, -, -, -⟩, hN, hE, -⟩ := hT
  have live2 : ∀ k : Int, 0 ≤ k → k < M 168 20 → live M (M 184 k) := by
    intro k k0 k1
    obtain ⟨-, ⟨f1, f2⟩, -, -⟩ := hW.2.2.2.1.2 k k0 k1
    have hc := (hW.2.2.2.2.2.2 (M 184 k) (by omega) f2).1
    have hp := cnt_pos (M 184) (M 184 k) (M 168 20).toNat k.toNat (by omega) (by rw [show ((k.toNat : Nat) : Int) = k by omega])
    exact Or.inr (by omega)
  rw [a2]
  refine ⟨fun k k0 k1 => ?_, fun k k0 k1 => ?_, fun k k0 k1 => ?_⟩
  · obtain ⟨⟨f1, f2, f3, f4⟩, -, -, -⟩ := hW.2.2.2.1.2 k k0 k1
    obtain ⟨a, ha, h, t, hS, -⟩ := (hN (M 183 k) f1 f2).1 f3
    exact ⟨a, _, by rw [(hE k k0 k1).1]; exact ha, hS.1⟩
  · obtain ⟨-, ⟨f1, f2⟩, -, -⟩ := hW.2.2.2.1.2 k k0 k1
    obtain ⟨a, ha, h, t, hS, -⟩ := (hN (M 184 k) (by omega) f2).1 (live2 k k0 k1)
    exact ⟨a, _, by rw [(hE k k0 k1).2.1]; exact ha, hS.1⟩
  · obtain ⟨-, -, r, b, e1, e2⟩ := hE k k0 k1
    exact ⟨r, _, e1, e2.1.1⟩
section TIE
variable {d nx zl : Nat} {K : Option TV → FH → Prop} {sh : Nat → Option Shp} {M : FM} {F x : Int}
def thr (M : FM) (p F : Int) (T : List Int) : Prop := p < M 168 20 ∧ M 183 p = F ∧ nmL M p = T
theorem addEntry_Y (hT : treeR sh M) (hx : fxN ≤ nx) (hfr : ∀ c, nx ≤ c → sh c = none) (hn : 0 ≤ M 4 1 ∧ M 4 1 ≤ 16384) (hF : -2147483648 ≤ F ∧ F ≤ 2147483647) (hX : -2147483648 ≤ x ∧ x ≤ 2147483647)
    (kB : ¬ (okN M F ∧ okN M x ∧ M 171 x ≠ 1 ∧ nmF (M 5) 0 (M 4 1)) → K (some (ti (-1))) (sh, M, nx, zl))
    (kN : okN M F → okN M x → M 171 x ≠ 1 → nmF (M 5) 0 (M 4 1) → M 171 F ≠ 1 → K (some (ti (-4))) (sh, M, nx, zl))
    (kT : okN M F → okN M x → M 171 x ≠ 1 → nmF (M 5) 0 (M 4 1) → M 171 F = 1 → ∀ p, isLB M p F (sl (M 5) 0 (M 4 1).toNat) → thr M p F (sl (M 5) 0 (M 4 1).toNat) → K (some (ti (-3))) (sh, M, nx, zl))
    (kF : okN M F → okN M x → M 171 x ≠ 1 → nmF (M 5) 0 (M 4 1) → M 171 F = 1 → ∀ p, isLB M p F (sl (M 5) 0 (M 4 1).toNat) → ¬ thr M p F (sl (M 5) 0 (M 4 1).toNat) → ¬ (M 168 20 < 2000 ∧ M 168 26 + M 4 1 ≤ 32768) → K (some (ti (-6))) (sh, M, nx, zl))
    (kO : okN M F → okN M x → M 171 x ≠ 1 → nmF (M 5) 0 (M 4 1) → M 171 F = 1 → ∀ p, isLB M p F (sl (M 5) 0 (M 4 1).toNat) → ¬ thr M p F (sl (M 5) 0 (M 4 1).toNat) → M 168 20 < 2000 → M 168 26 + M 4 1 ≤ 32768 → ∀ (af ac : Nat) (M2 : FM), M 11 F = af → M 11 x = ac → insF M M2 p af ac 5 nx (M 4 1) → K (some (ti (M 177 x + 1))) (nrS sh nx (M 4 1).toNat, M2, nx + 2, zl + 3 + (M 4 1).toNat)) : fm_Y (d + 4) 40 [.ref 8, .int (Int32.ofInt F), .int (Int32.ofInt x), .ref 4] (sh, M, nx, zl) K := by
  have hW := hT.1
  have hNr := hW.1.1
  have hEr := hW.2.2.2.1.1
  obtain ⟨-, ta2, ta3, -, -⟩ := hT.2.1
  obtain ⟨r12, r13, r14⟩ := tree_rows hT
  refine m40 [fx 8, ti F, ti x, fx 4] ?_
  refine node_Y hT hF (fun af f0 f1 f2 f3 f4 => ?_) (fun hF9 => ?_)
  · refine node_Y hT hX (fun ac x0 x1 x2 x3 x4 => ?_) (fun hX9 => ?_)
    · obtain ⟨hh, tt, hS, hE, -⟩ := id f4
      obtain ⟨hh2, tt2, hS2, hE2, -⟩ := id x4
      have kx := (hW.1.2 x x0 x1).1
      have kf := (hW.1.2 F f0 f1).1
      have e1 : M ac 1 = M 171 x := hE2.2.1
      have e2 : M af 1 = M 171 F := hE.2.1
      refine ⟨_, hS2.1, ?_⟩
      refine ⟨by omega, fun w => kB (fun z => z.2.2.1 (by omega)), fun w => ?_⟩
      have wk : M 171 x ≠ 1 := by omega
      refine isName_Y (a := 5) (na := 16384) rfl (by omega) (by omega) (by omega) (by omega) (fun hnm => ?_) (fun hnm => ?_)
      · refine ⟨by omega, fun _ => ?_, fun z => by omega⟩
        refine ⟨_, hS.1, ?_⟩
        refine ⟨by omega, fun w2 => ?_, fun w2 => kN ⟨f0, f1, f2⟩ ⟨x0, x1, x2⟩ wk hnm (by omega)⟩
        have wf : M 171 F = 1 := by omega
        refine seek_Y (t := 4) (tb := 5) (tn := 16384) hT (rowS_4 sh) hn.1 (by omega) hn.2 hS.1 hE.1 (by omega) (fun p hp => ?_)
        have hp1 := hp.1
        refine isAt_Y (t := 4) (tb := 5) (tn := 16384) hT (rowS_4 sh) hn.1 (by omega) hn.2 f0 f1 f2 f3 f4 hp1 (fun q1 q2 q3 => ?_) (fun q => ?_)
        · refine ⟨by omega, fun z => by omega, fun _ => ?_⟩
          exact kT ⟨f0, f1, f2⟩ ⟨x0, x1, x2⟩ wk hnm wf p hp ⟨q1, q2, q3⟩
        · refine ⟨by omega, fun _ => ?_, fun z => by omega⟩
          refine hasRoom_Y hT (by omega) (fun h1 h2 => ?_) (fun h1 => ?_)
          · refine ⟨by omega, fun _ => ?_, fun z => by omega⟩
            have hac : af ≠ ac := by
              intro e
              rw [e] at e2
              omega
            refine insert_Y (t := 4) (tb := 5) (tn := 16384) (h1 := hh) (t1 := tt) (h2 := hh2) (t2 := tt2) hx hfr (rowS_4 sh) hn.1 (by omega) hn.2 hS.1 hS2.1 hS.2 hS2.2 hac hp1.1 (by omega) (by omega) r12 r13 r14 (fun M2 hI => ?_)
            have hfr2 := shp_fresh hx hfr hS2.1
            refine ⟨_, (nrS_o hfr2.1 hfr2.2).trans hS2.1, ?_⟩
            have z := kO ⟨f0, f1, f2⟩ ⟨x0, x1, x2⟩ wk hnm wf p hp q h1 h2 af ac M2 f3 x3 hI
            have e9 : M2 ac 9 = M 177 x + 1 := by
              rw [hI.2.2.2.2.1, ur_at, hE2.2.2.2.2.2.2.2.1]
            rw [← e9] at z
            exact z
          · refine ⟨by omega, fun z => by omega, fun _ => ?_⟩
            exact kF ⟨f0, f1, f2⟩ ⟨x0, x1, x2⟩ wk hnm wf p hp q h1
      · refine ⟨by omega, fun z => by omega, fun _ => ?_⟩
        exact kB (fun z => hnm z.2.2.2)
    · exact kB (fun z => hX9 z.2.1)
  · refine node_Y hT hX (fun ac x0 x1 x2 x3 x4 => ?_) (fun hX9 => ?_)
    · exact kB (fun z => hF9 z.1)
    · exact kB (fun z => hF9 z.1)
/-- the reference's tie, from where its tape is used up -/
theorem mtie_Y (hW : twR M) (hn : 0 ≤ M 168 1 ∧ M 168 1 ≤ 16384) (hF : -2147483648 ≤ F ∧ F ≤ 2147483647) (hX : -2147483648 ≤ x ∧ x ≤ 2147483647)
    (kB : ¬ (okN M F ∧ okN M x ∧ M 171 x ≠ 1 ∧ nmF (M 169) 0 (M 168 1)) → K (some (ti (-1))) (sh, utM M, nx, zl))
    (kN : okN M F → okN M x → M 171 x ≠ 1 → nmF (M 169) 0 (M 168 1) → M 171 F ≠ 1 → K (some (ti (-4))) (sh, utM M, nx, zl))
    (kT : okN M F → okN M x → M 171 x ≠ 1 → nmF (M 169) 0 (M 168 1) → M 171 F = 1 → ∀ p, isLB M p F (sl (M 169) 0 (M 168 1).toNat) → thr M p F (sl (M 169) 0 (M 168 1).toNat) → K (some (ti (-3))) (sh, utM M, nx, zl))
    (kF : okN M F → okN M x → M 171 x ≠ 1 → nmF (M 169) 0 (M 168 1) → M 171 F = 1 → ∀ p, isLB M p F (sl (M 169) 0 (M 168 1).toNat) → ¬ thr M p F (sl (M 169) 0 (M 168 1).toNat) → ¬ (M 168 20 < 2000 ∧ M 168 26 + M 168 1 ≤ 32768) → K (some (ti (-6))) (sh, utM M, nx, zl))
    (kO : okN M F → okN M x → M 171 x ≠ 1 → nmF (M 169) 0 (M 168 1) → M 171 F = 1 → ∀ p, isLB M p F (sl (M 169) 0 (M 168 1).toNat) → ¬ thr M p F (sl (M 169) 0 (M 168 1).toNat) → M 168 20 < 2000 → M 168 26 + M 168 1 ≤ 32768 → ∀ M2 : FM, entF (utM M) M2 p F x (M 168 1) → K (some (ti (M 177 x + 1))) (sh, M2, nx, zl)) : fm_Y (d + 3) 254 [.ref 168, .int (Int32.ofInt F), .int (Int32.ofInt x)] (sh, M, nx, zl) K := by
  refine m254 [fx 168, ti F, ti x] ?_
  refine muse_Y ?_
  have hW' : twR (utM M) := hW
  have hNr := hW.1.1
  have hEr := hW.2.2.2.1.1
  refine misNode_Y hW' hF (fun f0 f1 f2 => ?_) (fun hF9 => ?_)
  · refine ⟨by omega, fun z => by omega, fun _ => ?_⟩
    have f1' : F < M 168 5 := f1
    refine misNode_Y hW' hX (fun x0 x1 x2 => ?_) (fun hX9 => ?_)
    · refine ⟨by omega, fun z => by omega, fun _ => ?_⟩
      have x1' : x < M 168 5 := x1
      have kx := (hW.1.2 x x0 x1').1
      have kf := (hW.1.2 F f0 f1').1
      have kx' : -2147483648 ≤ utM M 171 x ∧ utM M 171 x ≤ 2147483647 ∧ (-2147483648 : Int) ≤ 1 ∧ (1 : Int) ≤ 2147483647 := by
        show -2147483648 ≤ M 171 x ∧ M 171 x ≤ 2147483647 ∧ _
        omega
      have kf' : -2147483648 ≤ utM M 171 F ∧ utM M 171 F ≤ 2147483647 ∧ (-2147483648 : Int) ≤ 1 ∧ (1 : Int) ≤ 2147483647 := by
        show -2147483648 ≤ M 171 F ∧ M 171 F ≤ 2147483647 ∧ _
        omega
      have z20 : utM M 168 20 = M 168 20 := rfl
      have z26 : utM M 168 26 = M 168 26 := rfl
      have hE' : -2147483648 ≤ utM M 168 20 ∧ utM M 168 20 ≤ 2147483647 ∧ (-2147483648 : Int) ≤ 2000 ∧ (2000 : Int) ≤ 2147483647 := by omega
      have hA' : -2147483648 ≤ utM M 168 26 + M 168 1 ∧ utM M 168 26 + M 168 1 ≤ 2147483647 ∧ (-2147483648 : Int) ≤ 32768 ∧ (32768 : Int) ≤ 2147483647 := by omega
      refine ⟨by omega, ?_⟩
      refine ⟨kx', fun w => kB (fun z => z.2.2.1 w), fun w => ?_⟩
      refine misName_Y (a := 169) (na := 16384) rfl (by omega) (by omega) (by omega) (by omega) (by omega) (by omega) (fun hnm => ?_) (fun hnm => ?_)
      · refine ⟨by omega, fun _ => ?_, fun z => by omega⟩
        refine ⟨by omega, ?_⟩
        refine ⟨kf', fun w2 => ?_, fun w2 => kN ⟨f0, f1, f2⟩ ⟨x0, x1, x2⟩ w hnm w2⟩
        refine mplaceOf_Y hW' hF hn.1 hn.2 (fun p hp => ?_)
        have hp1 := hp.1
        refine misThere_Y hW' hF hp1 hn.1 hn.2 (fun q1 q2 q3 => ?_) (fun q => ?_)
        · refine ⟨by omega, fun z => by omega, fun _ => ?_⟩
          exact kT ⟨f0, f1, f2⟩ ⟨x0, x1, x2⟩ w hnm w2 p hp ⟨q1, q2, q3⟩
        · refine ⟨by omega, fun _ => ?_, fun z => by omega⟩
          refine ⟨hE', fun w3 => kF ⟨f0, f1, f2⟩ ⟨x0, x1, x2⟩ w hnm w2 p hp q (fun z => by omega), fun w3 => ?_⟩
          refine ⟨hA', fun w4 => ?_, fun w4 => kF ⟨f0, f1, f2⟩ ⟨x0, x1, x2⟩ w hnm w2 p hp q (fun z => by omega)⟩
          refine menter_Y hp1.1 hp1.2 (by omega) hn.1 hn.2 (by omega) (by omega) x0 (by omega) hF (fun M2 hI => ?_)
          refine ⟨by omega, ?_⟩
          have z := kO ⟨f0, f1, f2⟩ ⟨x0, x1, x2⟩ w hnm w2 p hp q (by omega) (by omega) M2 hI
          have e9 : M2 177 x = M 177 x + 1 := by
            rw [hI.2.2.2.2.1, ur_at]
            rfl
          rw [← e9] at z
          exact z
      · refine ⟨by omega, fun z => by omega, fun _ => ?_⟩
        exact kB (fun z => hnm z.2.2.2)
    · exact ⟨by omega, fun _ => kB (fun z => hX9 z.2.1), fun z => by omega⟩
  · exact ⟨by omega, fun _ => kB (fun z => hF9 z.1), fun z => by omega⟩
end TIE
