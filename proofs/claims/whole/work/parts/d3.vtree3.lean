/-! UNPACKING, the reference: a leaf in a tree -/
section VTREE3
variable {T A : Int → Int} {D : Int → Nat} {N U Lc : Int} {ls : Int → Int} {n : Nat} {I : Nat → Prop} {d : Nat} {m b : Int}
/-- between two codes -/
def rstI (A : Int → Int) (N U : Int) : Prop := ∀ m : Int, 0 ≤ m → m < N → A m = U → m = 0
theorem wk_begin (h : tnV T A D N U ls n I Lc) (hr : rstI A N U) (hU : 0 ≤ U ∧ U < 32768) : wkI T A D N U 0 0 := by
  obtain ⟨hN, -⟩ := h
  refine ⟨⟨⟨by omega, by have := hN.1.1; omega⟩, hN.1.2.2, ?_⟩, fun m2 m0 m1 e => ?_, fun m2 b2 m0 m1 b0 b1 hD => by omega⟩
  · rw [hN.1.2.1]
    show 0 = U / 32768 * 32768
    omega
  · rw [hr m2 m0 m1 e, hN.1.2.2]
    omega
theorem put_leaf (h : tnV T A D N U ls n I Lc) (hw : wkI T A D N U d m) (hd : d ≤ 14) (hb : b = U / 2 ^ (14 - d) % 2) (hmU : mlt U (2 ^ (14 - d))) (hU : 0 ≤ U) {s : Nat} (hs : s < n) (hls : ls s = (d + 1 : Nat)) (hpos : posS ls n s = U) {T2 : Int → Int} (g1 : T2 (2 * m + b) = -1 - s) (g4 : ∀ i : Int, i ≠ 2 * m + b → T2 i = T i) : T (2 * m + b) = 0 ∧ tnV T2 A D N (U + 2 ^ (14 - d)) ls n (fun x => I x ∨ x = s) (Lc + 1) ∧ rstI A N (U + 2 ^ (14 - d)) := by
  have hX := two_pos (14 - d)
  have es := slt_fl hw hd hb
  have hx := fl_b U hX
  have hsU : slt A D m b = U := by
    rw [es]
    exact (fl_u hX hmU (by omega) (by omega)).symm
  have NL := no_leaf h hw hd hb
  have SU := fun m2 b2 => slt_u (m2 := m2) (b2 := b2) h hw hd hb
  obtain ⟨hN, hI, hS, hP, hC, hZ⟩ := h
  obtain ⟨⟨w1, w2, w3⟩, w4, w5⟩ := hw
  have hz : T (2 * m + b) = 0 := by
    by_cases e : 0 < T (2 * m + b)
    · obtain ⟨q1, q2, q3⟩ := (hS m b w1.1 w1.2 (by omega) (by omega)).1 e
      rw [hsU] at q2
      have := w4 _ (by omega) q1 q2
      omega
    · omega
  have hTo : ∀ m2 b2 : Int, 0 ≤ b2 → b2 ≤ 1 → ¬ (m2 = m ∧ b2 = b) → T2 (2 * m2 + b2) = T (2 * m2 + b2) := fun m2 b2 _ _ hne => g4 _ (by omega)
  refine ⟨hz, ⟨⟨hN.1, fun m2 m0 m1 => ?_⟩, hI, fun m2 b2 m0 m1 b0 b1 => ?_, fun m2 m0 m1 => ?_, fun x hx2 hi => ?_, ?_⟩, fun m2 m0 m1 e => ?_⟩
  · obtain ⟨a1, a2, a3, a4⟩ := hN.2 m2 m0 m1
    exact ⟨a1, a2, by omega, a4⟩
  · by_cases e : m2 = m ∧ b2 = b
    · rw [e.1, e.2, g1, hsU, w2]
      refine ⟨fun z => by omega, fun z => by omega, fun _ => ⟨by omega, s, hs, rfl, hls, hpos⟩⟩
    · rw [hTo m2 b2 b0 b1 e]
      obtain ⟨q1, q2, q3⟩ := hS m2 b2 m0 m1 b0 b1
      refine ⟨q1, fun z => ?_, fun z => ?_⟩
      · have r1 := q2 z
        obtain ⟨a1, a2, a3, a4⟩ := hN.2 m2 m0 m1
        have hX2 := two_pos (14 - D m2)
        have e15 := x15 (d := D m2) a1
        have hb2 : b2 = 0 ∨ b2 = 1 := by omega
        have ml2 : mlt (slt A D m2 b2) (2 ^ (14 - D m2)) := by
          unfold slt
          exact mlt_add (mlt_down a4 (by omega)) (mlt_mul _ _)
        by_cases c1 : D m2 ≤ d
        · -- its size is a multiple
          have ml3 : mlt (slt A D m2 b2) (2 ^ (14 - d)) := mlt_down ml2 (by omega)
          by_cases c2 : U + 2 ^ (14 - d) ≤ slt A D m2 b2
          · exact c2
          · have eq : slt A D m2 b2 = U := mlt_eq hX ml3 hmU (by omega) (by omega)
            by_cases c3 : D m2 < d
            · have := w5 m2 b2 m0 m1 b0 b1 c3 z
              omega
            · exact absurd (SU m2 b2 m0 m1 b0 b1 (by omega) (by rw [eq, hsU])) e
        · -- deeper
          have ml3 : mlt U (2 ^ (15 - D m2)) := mlt_down hmU (by omega)
          have eA : A m2 = U := by
            refine mlt_eq (by omega) a4 ml3 (by omega) ?_
            unfold slt at r1
            rcases hb2 with q | q
            · rw [q] at r1
              omega
            · rw [q] at r1
              omega
          have := w4 m2 m0 m1 eA
          omega
      · obtain ⟨r1, r2⟩ := q3 z
        exact ⟨by omega, r2⟩
  · obtain ⟨m3, b3, q1, q2⟩ := hP m2 m0 m1
    refine ⟨m3, b3, q1, ?_⟩
    rw [hTo m3 b3 q1.2.2.1 q1.2.2.2 (fun z => by rw [z.1, z.2, hz] at q2; omega)]
    exact q2
  · rcases hi with hi | hi
    · obtain ⟨m3, b3, q1, q2, q3, q4⟩ := hC x hx2 hi
      refine ⟨m3, b3, q1, ?_, q3, q4⟩
      rw [hTo m3 b3 q1.2.2.1 q1.2.2.2 (fun z => by rw [z.1, z.2, hz] at q2; omega)]
      exact q2
    · rw [hi]
      exact ⟨m, b, by omega, g1, by rw [w2]; exact hls, by rw [hsU, hpos]⟩
  · unfold tnZ at hZ ⊢
    have z3 : cnt (zf T2) (2 * N).toNat 0 = cnt (zf T) (2 * N).toNat 0 + 1 := by
      refine cnt_one (i := 2 * m + b) _ (by omega) (by omega) ?_ ?_ (fun j hj => ?_)
      · unfold zf
        rw [if_pos hz]
        omega
      · unfold zf
        rw [g1, if_neg (by omega)]
      · unfold zf
        rw [g4 _ hj.2]
    omega
  · have := (hN.2 m2 m0 m1).2.2.1
    omega
end VTREE3
