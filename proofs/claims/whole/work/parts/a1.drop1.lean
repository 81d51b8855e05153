/-! CALLS of both: drop, where the node keeps a tie -/
theorem RR_drop1 {V : FM → Prop} {L : Nat} {xs : Nat → Int32} {k nx zl : Nat} {sh : Nat → Option Shp} {M M1 M2 : FM} {p : Int} {af ac : Nat} (hV : keepsV V) (hR : RR V L xs k (sh, M, nx, zl)) (hp0 : 0 ≤ p) (hp1 : p < M 168 20) (hno : cnt (M 183) (M 168 20).toNat (M 184 p) = 0) (hFa : M 11 (M 183 p) = af) (hxa : M 11 (M 184 p) = ac) (hl : M 177 (M 184 p) ≠ 1) (hI : remF M M1 p af ac (M 186 p)) (hJ : mdF (utM (utC M1)) M2 p (M 184 p) (M 186 p)) : RR V L xs (k + 1) (sh, M2, nx, zl) := by
  have hT : treeR sh M := hR.2.2.2.1
  have hfr := hR.1.2.2
  obtain ⟨af2, ac2, ar, ab, g1, g2, g3, g4, ⟨b1, b2, b3, b4⟩, ⟨c1, c2, c3, c4, c5, c6⟩, -, nfc, ⟨l1, l2⟩⟩ := entry_at hT hp0 hp1
  have e1 : af2 = af := by omega
  have e2 : ac2 = ac := by omega
  rw [e1] at b3 nfc
  rw [e2] at c3 nfc
  have haf := b3.2
  have hac := c3.2
  have hB := drop_delB hT.2.1.2.1 haf hac hI hJ
  have hX := treeX_del hT hB hp0 hp1 rfl rfl hno hFa hxa nfc
  have hlx : live M2 (M 184 p) := by
    refine Or.inr ?_
    rw [hB.2.2.2.2.1, ur_at]
    omega
  obtain ⟨i2, i3, i4, i5, i6⟩ := hI
  obtain ⟨j1, j2, j3, j4, j5⟩ := hJ
  have M1o : ∀ c : Nat, c ≠ 8 → c ≠ 12 → c ≠ 13 → c ≠ 14 → (c < 265 ∧ c ≠ 17) → M1 c = M c := fun c q1 q2 q3 q4 q5 => i6 c q1 q2 q3 q4 (by omega) (by omega)
  have U : ∀ c : Nat, c ≠ 3 → c ≠ 4 → c ≠ 168 → utM (utC M1) c = M1 c := by
    intro c q1 q2 q3
    unfold utM utC
    rw [um_ne q3, um_ne q1, um_ne q2]
  have C : ∀ c : Nat, c ≠ 3 → c ≠ 4 → c ≠ 168 → c ≠ 177 → (c < 183 ∨ 187 < c) → M2 c = M1 c := fun c q1 q2 q3 q4 q5 => (j5 c q3 q4 q5).trans (U c q1 q2 q3)
  have m168 := M1o 168 (by decide) (by decide) (by decide) (by decide) (by decide)
  have m13 := M1o 3 (by decide) (by decide) (by decide) (by decide) (by decide)
  have w : ∀ i : Int, i ≠ 1 → i ≠ 2 → i ≠ 20 → i ≠ 26 → M2 168 i = M 168 i := by
    intro i q1 q2 q3 q4
    rw [j2, ur_ne q3, ur_ne q4]
    unfold utM
    rw [um_at, ur_ne q2, ur_ne q1]
    show M1 168 i = _
    rw [m168]
  have C3 : M2 3 = utC M1 3 := by
    rw [j5 3 (by decide) (by decide) (by decide)]
    rfl
  refine RR_mk hV hR (treeR_X hX hlx) (by omega) rfl hfr (fun c q1 q2 q3 q4 q5 q6 => ?_) ?_ ?_ ?_ ?_ ?_ ?_ ?_ ?_ ?_
  · exact (C c q3 q4 (by omega) (by omega) (by omega)).trans (M1o c (by omega) (by omega) (by omega) (by omega) ⟨q1, q2⟩)
  · exact (C 170 (by decide) (by decide) (by decide) (by decide) (by decide)).trans (M1o 170 (by decide) (by decide) (by decide) (by decide) (by decide))
  · exact w 4 (by omega) (by omega) (by omega) (by omega)
  · exact fun i hi => w i (by omega) (by omega) (by omega) (by omega)
  · rw [j2]
    rfl
  · rw [j2]
    rfl
  · rw [j5 4 (by decide) (by decide) (by decide)]
    rfl
  · rw [C3]
    rfl
  · rw [C3]
    show M1 3 6 = _
    rw [m13]
  · rw [C3]
    show M1 3 7 = _
    rw [m13]
