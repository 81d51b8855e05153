/-! CALLS of both: drop, the relation -/
theorem treeR_X {sh : Nat → Option Shp} {M : FM} {x : Int} (h : treeX sh M x) (hx : live M x) : treeR sh M := by
  obtain ⟨h1, h2, h3, h4, h5⟩ := h
  refine ⟨h1, h2, fun i i1 i2 => ?_, h4, fun i j i1 i2 j1 j2 ij hi hj => h5 i j i1 i2 j1 j2 ij ((lvX_live hx).2 hi) ((lvX_live hx).2 hj)⟩
  have q := h3 i i1 i2
  rw [lvX_live hx] at q
  exact q
/-- an entry went on both sides -/
theorem drop_delB {M M1 M2 : FM} {p x n : Int} {af ac : Nat} (h20 : M 8 7 = M 168 20) (haf : af = 17 ∨ 265 ≤ af) (hac : ac = 17 ∨ 265 ≤ ac) (hI : remF M M1 p af ac n) (hJ : mdF (utM (utC M1)) M2 p x n) : delB M M2 p x n af ac := by
  obtain ⟨i2, i3, i4, i5, i6⟩ := hI
  obtain ⟨j1, j2, j3, j4, j5⟩ := hJ
  have M1o : ∀ c : Nat, c ≠ 8 → c ≠ 12 → c ≠ 13 → c ≠ 14 → (c < 265 ∧ c ≠ 17) → M1 c = M c := fun c q1 q2 q3 q4 q5 => i6 c q1 q2 q3 q4 (by omega) (by omega)
  have U : ∀ c : Nat, c ≠ 3 → c ≠ 4 → c ≠ 168 → utM (utC M1) c = M1 c := by
    intro c q1 q2 q3
    unfold utM utC
    rw [um_ne q3, um_ne q1, um_ne q2]
  have g : ∀ c : Nat, 169 ≤ c → c ≤ 187 → utM (utC M1) c = M c := fun c q1 q2 => (U c (by omega) (by omega) (by omega)).trans (M1o c (by omega) (by omega) (by omega) (by omega) (by omega))
  have m168 := M1o 168 (by decide) (by decide) (by decide) (by decide) (by decide)
  have v168 : ∀ i : Int, i ≠ 1 → i ≠ 2 → utM (utC M1) 168 i = M 168 i := by
    intro i q1 q2
    unfold utM
    rw [um_at, ur_ne q2, ur_ne q1]
    show M1 168 i = _
    rw [m168]
  have C : ∀ c : Nat, c ≠ 3 → c ≠ 4 → c ≠ 168 → c ≠ 177 → (c < 183 ∨ 187 < c) → M2 c = M1 c := fun c q1 q2 q3 q4 q5 => (j5 c q3 q4 q5).trans (U c q1 q2 q3)
  have e20 := v168 20 (by omega) (by omega)
  have e26 := v168 26 (by omega) (by omega)
  have w : ∀ i : Int, i ≠ 1 → i ≠ 2 → i ≠ 20 → i ≠ 26 → M2 168 i = M 168 i := by
    intro i q1 q2 q3 q4
    rw [j2, ur_ne q3, ur_ne q4]
    exact v168 i q1 q2
  rw [e20, g 183 (by omega) (by omega), g 184 (by omega) (by omega), g 185 (by omega) (by omega), g 186 (by omega) (by omega)] at j1
  rw [g 185 (by omega) (by omega), g 187 (by omega) (by omega), e26] at j3
  rw [g 177 (by omega) (by omega)] at j4
  refine ⟨fun i i0 i1 => ⟨?_, j1 i i0 i1⟩, ?_, ⟨?_, ?_, ?_, ?_, ?_⟩, j3, j4, ⟨?_, ?_⟩, fun c hc => ?_, fun c hc q1 q2 => ?_⟩
  · rw [C 12 (by omega) (by omega) (by omega) (by omega) (by omega), C 13 (by omega) (by omega) (by omega) (by omega) (by omega), C 14 (by omega) (by omega) (by omega) (by omega) (by omega)]
    exact i2 i i0 (by omega)
  · rw [C 8 (by omega) (by omega) (by omega) (by omega) (by omega), i3]
    exact ⟨rfl, rfl, rfl, rfl⟩
  · exact w 5 (by omega) (by omega) (by omega) (by omega)
  · exact w 17 (by omega) (by omega) (by omega) (by omega)
  · exact w 19 (by omega) (by omega) (by omega) (by omega)
  · rw [j2, ur_at, e20]
  · rw [j2, ur_ne (by omega), ur_at, e26]
  · rw [C af (by omega) (by omega) (by omega) (by omega) (by omega)]
    exact i4
  · rw [C ac (by omega) (by omega) (by omega) (by omega) (by omega)]
    exact i5
  · rw [C c (by omega) (by omega) (by omega) (by omega) (by omega)]
    exact M1o c (by omega) (by omega) (by omega) (by omega) (by omega)
  · rw [C c (by omega) (by omega) (by omega) (by omega) (by omega)]
    exact i6 c (by omega) (by omega) (by omega) (by omega) q1 q2
