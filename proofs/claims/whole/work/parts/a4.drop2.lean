/-! CALLS of both: drop, where the node goes -/
section DROP2
variable {sh : Nat → Option Shp} {M M1 M3 M4 M5 M6 : FM} {p tl : Int} {af ac : Nat}
theorem ut_at (M : FM) {c : Nat} (h1 : c ≠ 3) (h2 : c ≠ 4) (h3 : c ≠ 168) : utM (utC M) c = M c := by
  unfold utM utC
  rw [um_ne h3, um_ne h1, um_ne h2]
theorem ut_168 {M M2 : FM} (h : M2 168 = M 168) : utM (utC M2) 168 = utM (utC M) 168 := by
  unfold utM
  rw [um_at, um_at]
  show ur (ur (M2 168) 1 0) 2 0 = ur (ur (M 168) 1 0) 2 0
  rw [h]
/-- the class's cells that its forget leaves -/
theorem drop_low (hT : treeR sh M) (hI : remF M M1 p af ac (M 186 p)) (haf : af = 17 ∨ 265 ≤ af) (hac : ac = 17 ∨ 265 ≤ ac) (hN : fgN M1 M3 ac tl) (hP : shfP (fgM M3 ac) M4 ac (M ac 11 + M ac 12) (-(M ac 12)) (M 8 2)) : ∀ c : Nat, c < 265 → c ≠ 17 → M4 c = fgM M3 ac c := by
  intro c c1 c2
  refine hP.1 c (fun i i0 i1 e => ?_)
  have z : fgM M3 ac 11 = M3 11 := fgM_o M3 ac (by decide) (by decide)
  rw [z, hN.1] at e
  by_cases q : i = M1 ac 0
  · rw [q, ur_at] at e
    omega
  · rw [ur_ne q] at e
    exact nodeP_lo (nodeP_rem hI haf hac (tree_nodeP hT i i0 i1)) c1 c2 e
theorem drop_virt (hT : treeR sh M) (hp0 : 0 ≤ p) (hp1 : p < M 168 20) (hno : cnt (M 183) (M 168 20).toNat (M 184 p) = 0) (hFa : M 11 (M 183 p) = af) (hxa : M 11 (M 184 p) = ac) (hl : M 177 (M 184 p) = 1) (hI : remF M M1 p af ac (M 186 p)) (hN : fgN M1 M3 ac tl) (hP : shfP (fgM M3 ac) M4 ac (M ac 11 + M ac 12) (-(M ac 12)) (M 8 2)) (hJ : mdF (utM (utC M4)) M5 p (M 184 p) (M 186 p)) : ∃ MX : FM, treeX sh MX (M 184 p) ∧ ¬ live MX (M 184 p) ∧ (0 ≤ M 184 p ∧ M 184 p < MX 168 5) ∧ MX 11 (M 184 p) = ac ∧ fgR MX M5 (M 184 p) ac tl ∧ (MX 171 = M 171 ∧ MX 180 = M 180) ∧ (∀ c : Nat, 168 ≤ c → c ≤ 187 → M5 c = MX c) := by
  obtain ⟨af2, ac2, ar, ab, g1, g2, g3, g4, ⟨b1, b2, b3, b4⟩, ⟨c1, c2, c3, c4, c5, c6⟩, -, nfc, ⟨l1, l2⟩⟩ := entry_at hT hp0 hp1
  have e1 : af2 = af := by omega
  have e2 : ac2 = ac := by omega
  rw [e1] at b3 nfc
  rw [e2] at c3 c4 nfc
  have haf := b3.2
  have hac := c3.2
  have low := drop_low hT hI haf hac hN hP
  obtain ⟨i2, i3, i4, i5, i6⟩ := id hI
  obtain ⟨n1, n2, n3, n4⟩ := id hN
  have M1o : ∀ c : Nat, c ≠ 8 → c ≠ 12 → c ≠ 13 → c ≠ 14 → (c < 265 ∧ c ≠ 17) → M1 c = M c := fun c q1 q2 q3 q4 q5 => i6 c q1 q2 q3 q4 (by omega) (by omega)
  have M4o : ∀ c : Nat, c ≠ 8 → c ≠ 9 → c ≠ 10 → c ≠ 11 → (c < 265 ∧ c ≠ 17) → M4 c = M1 c := by
    intro c q1 q2 q3 q4 q5
    rw [low c q5.1 q5.2, fgM_o M3 ac q2 q3]
    exact n4 c q1 q4
  have R4 : ∀ c : Nat, 168 ≤ c → c ≤ 187 → utM (utC M4) c = utM (utC M1) c := by
    intro c q1 q2
    by_cases e : c = 168
    · rw [e]
      exact ut_168 (M4o 168 (by decide) (by decide) (by decide) (by decide) (by decide))
    · rw [ut_at M4 (by omega) (by omega) e, ut_at M1 (by omega) (by omega) e]
      exact M4o c (by omega) (by omega) (by omega) (by omega) (by omega)
  obtain ⟨MX, hMX⟩ : ∃ MX : FM, MX = fun c => if c = 168 ∨ c = 177 ∨ (183 ≤ c ∧ c ≤ 187) then M5 c else utM (utC M1) c := ⟨_, rfl⟩
  have X1 : ∀ c : Nat, (c = 168 ∨ c = 177 ∨ (183 ≤ c ∧ c ≤ 187)) → MX c = M5 c := fun c hc => by rw [hMX]; exact if_pos hc
  have X2 : ∀ c : Nat, ¬ (c = 168 ∨ c = 177 ∨ (183 ≤ c ∧ c ≤ 187)) → MX c = utM (utC M1) c := fun c hc => by rw [hMX]; exact if_neg hc
  have hJX : mdF (utM (utC M1)) MX p (M 184 p) (M 186 p) := by
    obtain ⟨j1, j2, j3, j4, j5⟩ := id hJ
    have r168 := R4 168 (by omega) (by omega)
    have r177 := R4 177 (by omega) (by omega)
    have r183 := R4 183 (by omega) (by omega)
    have r184 := R4 184 (by omega) (by omega)
    have r185 := R4 185 (by omega) (by omega)
    have r186 := R4 186 (by omega) (by omega)
    have r187 := R4 187 (by omega) (by omega)
    rw [r168, r183, r184, r185, r186] at j1
    rw [r168] at j2
    rw [r168, r185, r187] at j3
    rw [r177] at j4
    refine ⟨?_, ?_, ?_, ?_, fun c q1 q2 q3 => X2 c (by omega)⟩
    · rw [X1 183 (by omega), X1 184 (by omega), X1 185 (by omega), X1 186 (by omega)]
      exact j1
    · rw [X1 168 (by omega)]
      exact j2
    · rw [X1 187 (by omega)]
      exact j3
    · rw [X1 177 (by omega)]
      exact j4
  have hB := drop_delB hT.2.1.2.1 haf hac hI hJX
  have hX := treeX_del hT hB hp0 hp1 rfl rfl hno hFa hxa nfc
  have C5 : ∀ c : Nat, c ≠ 3 → c ≠ 4 → (c < 168 ∨ 187 < c) → M5 c = M4 c := by
    intro c q1 q2 q3
    rw [hJ.2.2.2.2 c (by omega) (by omega) (by omega)]
    exact ut_at M4 q1 q2 (by omega)
  have X3 : ∀ c : Nat, c ≠ 3 → c ≠ 4 → (c < 168 ∨ 187 < c) → MX c = M1 c := by
    intro c q1 q2 q3
    rw [X2 c (by omega)]
    exact ut_at M1 q1 q2 (by omega)
  have k171 : MX 171 = M 171 := hB.2.2.2.2.2.2.1 171 (by omega)
  have k180 : MX 180 = M 180 := hB.2.2.2.2.2.2.1 180 (by omega)
  have k11 : MX 11 = M 11 := hB.2.2.2.2.2.2.1 11 (by omega)
  have k5 : MX 168 5 = M 168 5 := hB.2.2.1.1
  have hfx := (hT.1.2.2.2.1.2 p hp0 hp1).2.1
  have ta1 := hT.2.1.1
  have x0 : M1 ac 0 = M 184 p := by
    rw [i5, ur_ne (by omega)]
    exact c4.1
  have xa11 : M1 ac 11 = M ac 11 := by rw [i5, ur_ne (by omega)]
  have xa12 : M1 ac 12 = M ac 12 := by rw [i5, ur_ne (by omega)]
  have m11 : M1 11 = M 11 := M1o 11 (by decide) (by decide) (by decide) (by decide) (by decide)
  rw [x0] at n1
  have f11 : fgM M3 ac 11 = M3 11 := fgM_o M3 ac (by decide) (by decide)
  have m3a : M3 ac = M1 ac := n4 ac (by omega) (by omega)
  have m39 : M3 9 = M1 9 := n4 9 (by omega) (by omega)
  have m310 : M3 10 = M1 10 := n4 10 (by omega) (by omega)
  refine ⟨MX, hX, ?_, by omega, by rw [k11]; exact hxa, ⟨⟨?_, ?_, ?_, ?_⟩, ⟨?_, ?_⟩, ?_, ?_⟩, ⟨k171, k180⟩, fun c q1 q2 => ?_⟩
  · unfold live
    rw [hB.2.2.2.2.1, ur_at]
    omega
  · rw [C5 11 (by omega) (by omega) (by omega), low 11 (by omega) (by omega), f11, n1, k11, m11]
  · rw [C5 8 (by omega) (by omega) (by omega), low 8 (by omega) (by omega), fgM_o M3 ac (by decide) (by decide), X3 8 (by omega) (by omega) (by omega)]
    exact n2
  · intro i hi
    rw [C5 8 (by omega) (by omega) (by omega), low 8 (by omega) (by omega), fgM_o M3 ac (by decide) (by decide), X3 8 (by omega) (by omega) (by omega)]
    exact n3 i hi
  · rw [C5 9 (by omega) (by omega) (by omega), low 9 (by omega) (by omega), fgM_9 M3 ac (by omega), ur_at, X3 9 (by omega) (by omega) (by omega), X3 ac (by omega) (by omega) (by omega), m39, m3a]
  · intro i hi
    rw [X3 ac (by omega) (by omega) (by omega)] at hi
    rw [C5 10 (by omega) (by omega) (by omega), low 10 (by omega) (by omega), fgM_10 M3 ac, X3 10 (by omega) (by omega) (by omega), m310, m3a]
    unfold cpf
    rw [if_neg (by omega)]
  · intro i hi hi2
    rw [X3 ac (by omega) (by omega) (by omega)] at hi hi2 ⊢
    rw [X3 9 (by omega) (by omega) (by omega)] at hi2
    rw [C5 10 (by omega) (by omega) (by omega), low 10 (by omega) (by omega), fgM_10 M3 ac, X3 10 (by omega) (by omega) (by omega), m310, m3a, m39]
    unfold cpf
    rw [if_pos (by omega)]
    congr 2
    omega
  · intro c hc hi
    rw [C5 c (by omega) (by omega) (by omega), X3 c (by omega) (by omega) (by omega)]
    rw [k5, k11] at hi
    rw [hP.1 c (fun i i0 i1 e => ?_), fgM_o M3 ac (by omega) (by omega)]
    · exact n4 c (by omega) (by omega)
    · rw [f11, n1] at e
      by_cases q : i = M 184 p
      · rw [q, ur_at] at e
        omega
      · rw [ur_ne q, m11] at e
        exact hi i i0 (by omega) q e
  · intro i b i0 i1 ix hb
    rw [k5] at i1
    rw [k11] at hb
    have hnp := tree_nodeP hT i i0 (by omega)
    rcases hnp with hnp | ⟨b2, hh, tt, e3, e4, e5, e6, e7, e8⟩
    · omega
    · have eb : b2 = b := by omega
      rw [eb] at e5 e8
      have nb : b ≠ ac := by
        intro z
        have z2 : M ac 0 = M 184 p := c4.1
        rw [z] at e8
        omega
      have hs := hP.2 i b i0 (by omega) (by rw [f11, n1, ur_ne ix, m11]; exact hb)
      have fb : fgM M3 ac b = M1 b := by
        rw [fgM_o M3 ac (by omega) (by omega)]
        exact n4 b (by omega) (by omega)
      rw [C5 b (by omega) (by omega) (by omega), X3 b (by omega) (by omega) (by omega), X3 ac (by omega) (by omega) (by omega), xa11, xa12]
      rw [fb] at hs
      unfold selS at hs
      rw [fb] at hs
      refine ⟨fun z => ?_, fun z => ?_⟩
      · rw [hs.1 ⟨nb, z⟩]
        congr 1
      · exact hs.2 (fun y => z y.2)
  · by_cases e : c = 168 ∨ c = 177 ∨ (183 ≤ c ∧ c ≤ 187)
    · exact (X1 c e).symm
    · rw [X2 c e, hJ.2.2.2.2 c (by omega) (by omega) (by omega)]
      exact R4 c q1 q2
end DROP2
