/-! CALLS of both: drop, the class -/
section DROP
variable {d nx zl : Nat} {K : Option TV → FH → Prop} {sh : Nat → Option Shp} {M : FM} {F : Int}
theorem tree_nodeP (hT : treeR sh M) : ∀ i : Int, 0 ≤ i → i < M 8 2 → nodeP sh M i := by
  intro i i0 i1
  have a1 := hT.2.1.1
  have a5 := hT.2.1.2.2.2.2
  have b := hT.1.2.1.1
  rw [a1] at i1
  by_cases e : live M i
  · obtain ⟨a, ha, h, t, hS, hE, hFF, -⟩ := (hT.2.2.1 i i0 i1).1 e
    have f := hFF.1
    have kk := (hT.1.1.2 i i0 i1).1
    have e1 : M a 1 = M 171 i := hE.2.1
    exact Or.inr ⟨a, h, t, ha, hS.1, hS.2, ⟨f.1, by omega⟩, by omega, hE.1⟩
  · exact Or.inl ((hT.2.2.1 i i0 i1).2 e)
theorem nodeP_rem {M1 : FM} {p n : Int} {af ac : Nat} (h : remF M M1 p af ac n) (haf : af = 17 ∨ 265 ≤ af) (hac : ac = 17 ∨ 265 ≤ ac) {i : Int} (hP : nodeP sh M i) : nodeP sh M1 i := by
  obtain ⟨-, -, h3, h4, h5⟩ := h
  unfold nodeP at hP ⊢
  rw [h5 11 (by omega) (by omega) (by omega) (by omega) (by omega) (by omega)]
  rcases hP with q | ⟨b, hh, tt, e1, e2, e3, e4⟩
  · exact Or.inl q
  · refine Or.inr ⟨b, hh, tt, e1, e2, e3, ?_⟩
    by_cases q1 : b = ac
    · rw [q1, h4, ur_ne (by omega), ur_ne (by omega), ur_ne (by omega), ← q1]
      exact e4
    · by_cases q2 : b = af
      · rw [q2, h3, ur_ne (by omega), ur_ne (by omega), ur_ne (by omega), ← q2]
        exact e4
      · rw [h5 b (by omega) (by omega) (by omega) (by omega) q2 q1]
        exact e4
/-- what is known of an entry -/
theorem entry_at (hT : treeR sh M) {p : Int} (h0 : 0 ≤ p) (h1 : p < M 168 20) : ∃ (af ac ar ab : Nat) (h1 t1 h2 t2 : Option Nat), (M 11 (M 183 p) = af ∧ M 12 p = af ∧ ndS sh af h1 t1 ∧ ndE M (M 183 p) af) ∧ (M 11 (M 184 p) = ac ∧ M 13 p = ac ∧ ndS sh ac h2 t2 ∧ ndE M (M 184 p) ac ∧ ndF M (M 184 p) ac ∧ ndL sh M (M 184 p) t2) ∧ (M 14 p = ar ∧ rowD sh M ar ab (nmL M p)) ∧ af ≠ ac ∧ (0 < M 177 (M 184 p) ∧ M 177 (M 184 p) ≤ 2000) := by
  obtain ⟨hW, -, hN, hE, -⟩ := hT
  obtain ⟨⟨f1, f2, f3, f4⟩, ⟨f5, f6⟩, f7, f8⟩ := hW.2.2.2.1.2 p h0 h1
  obtain ⟨g1, g2, ar, ab, g3, g4⟩ := hE p h0 h1
  have hc := (hW.2.2.2.2.2.2 (M 184 p) (by omega) f6).1
  have hp := cnt_pos (M 184) (M 184 p) (M 168 20).toNat p.toNat (by omega) (by rw [show ((p.toNat : Nat) : Int) = p by omega])
  have hb := (cnt_nn (M 184) (M 184 p) (M 168 20).toNat).2
  have he := hW.2.2.2.1.1
  obtain ⟨af, haf, h1, t1, s1, e1, -⟩ := (hN (M 183 p) f1 f2).1 f3
  obtain ⟨ac, hac, h2, t2, s2, e2, e3, e4, -⟩ := (hN (M 184 p) (by omega) f6).1 (Or.inr (by omega))
  refine ⟨af, ac, ar, ab, h1, t1, h2, t2, ⟨haf, by omega, s1, e1⟩, ⟨hac, by omega, s2, e2, e3, e4⟩, ⟨g3, g4⟩, ?_, by omega, by omega⟩
  intro e
  have q1 : M af 0 = M 183 p := e1.1
  have q2 : M ac 0 = M 184 p := e2.1
  rw [e, q2] at q1
  rw [← q1] at f4
  have q3 := f8 f4
  have q4 := (hW.1.2 (M 184 p) (by omega) f6).2.1 f5
  omega
theorem removeEntry_Y (hT : treeR sh M) (hn : 0 ≤ M 4 1 ∧ M 4 1 ≤ 16384) (hF : -2147483648 ≤ F ∧ F ≤ 2147483647)
    (kB : ¬ (okN M F ∧ nmF (M 5) 0 (M 4 1)) → K (some (ti (-1))) (sh, M, nx, zl))
    (kN : okN M F → nmF (M 5) 0 (M 4 1) → M 171 F ≠ 1 → K (some (ti (-4))) (sh, M, nx, zl))
    (kM : okN M F → nmF (M 5) 0 (M 4 1) → M 171 F = 1 → ∀ p, isLB M p F (sl (M 5) 0 (M 4 1).toNat) → ¬ thr M p F (sl (M 5) 0 (M 4 1).toNat) → K (some (ti (-2))) (sh, M, nx, zl))
    (kE : okN M F → nmF (M 5) 0 (M 4 1) → M 171 F = 1 → ∀ p, isLB M p F (sl (M 5) 0 (M 4 1).toNat) → thr M p F (sl (M 5) 0 (M 4 1).toNat) → 0 < cnt (M 183) (M 168 20).toNat (M 184 p) → K (some (ti (-5))) (sh, M, nx, zl))
    (kO : okN M F → nmF (M 5) 0 (M 4 1) → M 171 F = 1 → ∀ p, isLB M p F (sl (M 5) 0 (M 4 1).toNat) → thr M p F (sl (M 5) 0 (M 4 1).toNat) → cnt (M 183) (M 168 20).toNat (M 184 p) = 0 → ∀ (af ac : Nat) (M1 : FM), M 11 F = af → M 11 (M 184 p) = ac → remF M M1 p af ac (M 186 p) → (M 177 (M 184 p) ≠ 1 → K (some (ti (M 184 p))) (sh, M1, nx, zl)) ∧ (M 177 (M 184 p) = 1 → ∀ (M3 M2 : FM) (tl : Int), (M 171 (M 184 p) = 3 → tl = M 180 (M 184 p)) → (M 171 (M 184 p) ≠ 3 → tl = 0) → fgN M1 M3 ac tl → shfP (fgM M3 ac) M2 ac (M ac 11 + M ac 12) (-(M ac 12)) (M 8 2) → M2 ac 0 = M 184 p → K (some (ti (M 184 p))) (sh, M2, nx, zl))) : fm_Y (d + 4) 42 [.ref 8, .int (Int32.ofInt F), .ref 4] (sh, M, nx, zl) K := by
  have hW := hT.1
  have hNr := hW.1.1
  have hEr := hW.2.2.2.1.1
  have hBr := hW.2.1.1
  obtain ⟨ta1, ta2, ta3, ta4, ta5⟩ := hT.2.1
  obtain ⟨r12, r13, r14⟩ := tree_rows hT
  refine m42 [fx 8, ti F, fx 4] ?_
  refine node_Y hT hF (fun af f0 f1 f2 f3 f4 => ?_) (fun hF9 => ?_)
  · obtain ⟨hh, tt, hS, hE, -⟩ := id f4
    have kf := (hW.1.2 F f0 f1).1
    have e2 : M af 1 = M 171 F := hE.2.1
    refine isName_Y (a := 5) (na := 16384) rfl (by omega) (by omega) (by omega) (by omega) (fun hnm => ?_) (fun hnm => ?_)
    · refine ⟨by omega, fun _ => ?_, fun z => by omega⟩
      refine ⟨_, hS.1, ?_⟩
      refine ⟨by omega, fun w2 => ?_, fun w2 => kN ⟨f0, f1, f2⟩ hnm (by omega)⟩
      have wf : M 171 F = 1 := by omega
      refine seek_Y (t := 4) (tb := 5) (tn := 16384) hT (rowS_4 sh) hn.1 (by omega) hn.2 hS.1 hE.1 (by omega) (fun p hp => ?_)
      have hp1 := hp.1
      refine isAt_Y (t := 4) (tb := 5) (tn := 16384) hT (rowS_4 sh) hn.1 (by omega) hn.2 f0 f1 f2 f3 f4 hp1 (fun q1 q2 q3 => ?_) (fun q => ?_)
      · refine ⟨by omega, fun _ => ?_, fun z => by omega⟩
        obtain ⟨af2, ac, ar, ab, g1, g2, g3, g4, ⟨b1, b2, b3, b4⟩, ⟨c1, c2, c3, c4, c5, c6⟩, ⟨d1, d2⟩, nfc, ⟨l1, l2⟩⟩ := entry_at hT hp1.1 q1
        have eaf : af2 = af := by rw [q2] at b1; omega
        subst eaf
        have hfx := hW.2.2.2.1.2 p hp1.1 q1
        have hx := hfx.2.1
        refine ⟨by omega, fun m e => ?_, fun w => by omega⟩
        have em : m = ac := by omega
        subst em
        refine ⟨_, c3.1, ?_⟩
        have e10 : M m 10 = cnt (M 183) (M 168 20).toNat (M 184 p) := c4.2.2.2.2.2.2.2.2
        have e9 : M m 9 = M 177 (M 184 p) := c4.2.2.2.2.2.2.2.1
        have cr := cnt_nn (M 183) (M 184 p) (M 168 20).toNat
        refine ⟨by omega, fun w => ?_, fun w => kE ⟨f0, f1, f2⟩ hnm wf p hp ⟨q1, q2, q3⟩ (by omega)⟩
        have er : M ar 1 = M 186 p := by
          have z := d2.2.2.2.1
          unfold nmL at z
          rw [sl_len] at z
          omega
        refine remove_Y (ab := ab) b3.1 c3.1 d2.1.1 b3.2 c3.2 d2.2.1.1 nfc hp1.1 (by omega) (by omega) b2 c2 d1 r12 r13 r14 (fun M1 hR => ?_)
        rw [er] at hR
        have k0 := kO ⟨f0, f1, f2⟩ hnm wf p hp ⟨q1, q2, q3⟩ (by omega) af2 m M1 f3 c1 hR
        obtain ⟨-, i2, i3, i4, i5⟩ := id hR
        have y9 : M1 m 9 = M 177 (M 184 p) - 1 := by rw [i4, ur_at, e9]
        have y0 : M1 m 0 = M 184 p := by rw [i4, ur_ne (by omega)]; exact c4.1
        have y11 : M1 m 11 = M m 11 := by rw [i4, ur_ne (by omega)]
        have y12 : M1 m 12 = M m 12 := by rw [i4, ur_ne (by omega)]
        have y8 : M1 8 2 = M 8 2 := by rw [i2, ur_ne (by omega), ur_ne (by omega)]
        have z17 := c3.2
        have z18 := b3.2
        have y91 : M1 9 = M 9 := i5 9 (by omega) (by omega) (by omega) (by omega) (by omega) (by omega)
        refine ⟨_, c3.1, ?_⟩
        refine ⟨by omega, fun w2 => ?_, fun w2 => ?_⟩
        · refine ⟨_, c3.1, ?_⟩
          have z := k0.1 (by omega)
          rw [← y0] at z
          exact z
        · have hf := c5.1
          have k2 := k0.2 (by omega)
          obtain ⟨tl, tl1, tl2⟩ : ∃ tl : Int, (M 171 (M 184 p) = 3 → tl = M 180 (M 184 p)) ∧ (M 171 (M 184 p) ≠ 3 → tl = 0) := by
            by_cases e : M 171 (M 184 p) = 3
            · exact ⟨_, fun _ => rfl, fun z => absurd e z⟩
            · exact ⟨0, fun z => absurd z e, fun _ => rfl⟩
          refine forget_Y (tl := tl) c3.2 c3.1 (fun e => ?_) (fun r e => ?_) (by rw [y8]; omega) (fun i i0 i1 => ?_) (by rw [y0, y8]; omega) (by omega) (by omega) (by rw [y11, y12, y91]; omega) (by rw [y91]; omega) (fun M3 M2 hN hP => ?_)
          · by_cases e3 : M 171 (M 184 p) = 3
            · obtain ⟨r, b, e4, -⟩ := c6.1 e3
              rw [e] at e4
              cases e4
            · exact tl2 e3
          · by_cases e3 : M 171 (M 184 p) = 3
            · obtain ⟨r2, b, e4, e5⟩ := c6.1 e3
              have er : r2 = r := by
                rw [e4] at e
                cases e
                rfl
              rw [er] at e5
              have e6 := e5.2.2.2.1
              rw [sl_len] at e6
              have b180 := (hW.2.1.2 (M 184 p) (by omega) hx.2).1
              refine ⟨?_, e5.2.1.1, b, e5.1.1⟩
              have hrm : r ≠ m ∧ r ≠ af2 := by
                constructor
                · intro z
                  have z1 := e5.1.1
                  rw [z, c3.1] at z1
                  cases z1
                · intro z
                  have z1 := e5.1.1
                  rw [z, b3.1] at z1
                  cases z1
              rw [i5 r (by have := e5.2.1.1; omega) (by have := e5.2.1.1; omega) (by have := e5.2.1.1; omega) (by have := e5.2.1.1; omega) hrm.2 hrm.1, tl1 e3]
              omega
            · have e4 := c6.2 e3
              rw [e4] at e
              cases e
          · rw [y8] at i1
            exact nodeP_rem hR b3.2 c3.2 (tree_nodeP hT i i0 i1)
          · rw [y11, y12, y8] at hP
            refine ⟨_, c3.1, ?_⟩
            have e0 : M2 m 0 = M 184 p := by
              have z4 : M3 m = M1 m := hN.2.2.2 m (by omega) (by omega)
              have z5 : fgM M3 m m = M3 m := fgM_o M3 m (by omega) (by omega)
              have z6 : fgM M3 m 11 = M3 11 := fgM_o M3 m (by decide) (by decide)
              by_cases hex : ∃ i : Int, 0 ≤ i ∧ i < M 8 2 ∧ fgM M3 m 11 i = m
              · obtain ⟨i, i0, i1, i6⟩ := hex
                rw [(hP.2 i m i0 i1 i6).2 (fun z => z.1 rfl), z5, z4]
                exact y0
              · rw [hP.1 m (fun i i0 i1 i6 => hex ⟨i, i0, i1, i6⟩), z5, z4]
                exact y0
            have z := k2 M3 M2 tl tl1 tl2 hN hP e0
            rw [← e0] at z
            have e0' := e0
            rw [e0]
            rw [e0] at z
            exact z
      · refine ⟨by omega, fun z => by omega, fun _ => ?_⟩
        exact kM ⟨f0, f1, f2⟩ hnm wf p hp q
    · refine ⟨by omega, fun z => by omega, fun _ => ?_⟩
      exact kB (fun z => hnm z.2)
  · exact kB (fun z => hF9 z.1)
end DROP
