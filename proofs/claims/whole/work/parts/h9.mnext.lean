/-! MOUNTING: listings; the reference's walk -/
section MNEXT
variable {d nx zl : Nat} {K : Option TV → FH → Prop} {sh : Nat → Option Shp} {M : FM} {IR IS LR LS : List Int} {B ids F n : Int} {pl h : Int → Int}
theorem nextEnd_Y {a : Int} (h12 : M 168 112 = a) (h16 : M 168 116 = a) (ha : 0 ≤ a ∧ a ≤ 65536) (k : K (some (ti 0)) (sh, M, nx, zl)) : fm_Y (d + 3) 364 [.ref 168] (sh, M, nx, zl) K := by
  refine m364 [fx 168] ?_
  exact ⟨by omega, fun w => by omega, fun _ => ⟨Or.inl rfl, k⟩⟩
theorem nextEntry_Y {a e l hd hd2 a2 l2 : Int} (hL : mlC M IR IS LR LS B ids F n pl h) (h12 : M 168 112 = e) (h16 : M 168 116 = a) (h17 : M 168 117 = l) (h18 : l ≠ 0 → M 168 118 = hd ∧ 0 ≤ hd ∧ hd + 12 ≤ e) (ha : 0 ≤ a) (he : e ≤ LR.length) (hl : 0 ≤ l ∧ l ≤ 256) (hx : nxH IS (lf LR) e a l hd hd2 a2 l2) (hE : nxE (lf LR) e a2)
    (k : ∀ M2 : FM, moF M M2 → (M2 168 111 = M 168 111 ∧ M2 168 112 = e) → (M2 168 113 = chd (lf LR) hd2 a2 ∧ M2 168 114 = a2 + 8 ∧ M2 168 115 = le (lf LR) (a2 + 6) 2 + 1) → (M2 168 116 = a2 + 9 + le (lf LR) (a2 + 6) 2 ∧ M2 168 117 = l2 - 1 ∧ M2 168 118 = hd2) → K (some (ti 1)) (sh, M2, nx, zl)) : fm_Y (d + 3) 364 [.ref 168] (sh, M, nx, zl) K := by
  have lr := hL.2.2.2.2.2.1.2
  have l6 := le_nn (lf LR) 2 (a2 + 6)
  have E1 := hE.1
  have E2 := hE.2
  refine m364 [fx 168] ?_
  have B55 : ∀ M1 : FM, moF M M1 → (M1 168 111 = M 168 111 ∧ M1 168 112 = e) → (M1 168 116 = a2 ∧ M1 168 117 = l2 ∧ M1 168 118 = hd2) → (0 ≤ a2 ∧ 0 ≤ hd2 ∧ hd2 + 12 ≤ e) → b364_55 (d + 2) (fW (d + 2) kd364 K) K [some (fx 168)] [] (sh, M1, nx, zl) := by
    intro M1 F1 s1 s2 r
    obtain ⟨s11, s12⟩ := s1
    obtain ⟨s16, s17, s18⟩ := s2
    have hL1 := mlC_to hL F1
    refine w4_Y (hd2 + 8) hL1 (by omega) (by omega) (fun r8 => ?_)
    refine w2_Y (a2 + 2) hL1 (by omega) (by omega) (fun r2 => ?_)
    refine ⟨by omega, ?_⟩
    obtain ⟨P1, g1⟩ : ∃ P1 : FM, P1 = pq M1 168 113 (le (lf LR) (hd2 + 8) 4 + ((le (lf LR) (a2 + 2) 2 + 32768) % 65536 - 32768)) := ⟨_, rfl⟩
    have F2 : moF M P1 := by
      rw [g1]
      exact mo_trans F1 (mo_put _ _ (by omega))
    have p1 : ∀ i : Int, i ≠ 113 → P1 168 i = M1 168 i := fun i hi => by rw [g1, pq_ne _ _ _ _ hi]
    have p16 : P1 168 116 = a2 := by rw [p1 _ (by omega)]; exact s16
    have T1 : (o_al 0 (o_al 0 (o_al 0 (o_get 12 116 116 (b364_93 (d + 2) (fW (d + 2) kd364 K) K)))) : FC) [some (fx 168)] [] (sh, P1, nx, zl) := by
      refine w2_Y (a2 + 6) (mlC_to hL F2) (by omega) (by omega) (fun r6 => ?_)
      obtain ⟨P2, g2⟩ : ∃ P2 : FM, P2 = pq P1 168 115 (le (lf LR) (a2 + 6) 2 + 1) := ⟨_, rfl⟩
      obtain ⟨P3, g3⟩ : ∃ P3 : FM, P3 = pq P2 168 114 (P2 168 116 + 8) := ⟨_, rfl⟩
      obtain ⟨P4, g4⟩ : ∃ P4 : FM, P4 = pq P3 168 116 (P3 168 114 + P3 168 115) := ⟨_, rfl⟩
      obtain ⟨P5, g5⟩ : ∃ P5 : FM, P5 = pq P4 168 117 (P4 168 117 - 1) := ⟨_, rfl⟩
      have q2 : P2 168 116 = a2 := by rw [g2, pq_ne _ _ _ _ (by omega)]; exact p16
      have q3a : P3 168 114 = a2 + 8 := by rw [g3, pq_at, q2]
      have q3b : P3 168 115 = le (lf LR) (a2 + 6) 2 + 1 := by rw [g3, pq_ne _ _ _ _ (by omega), g2, pq_at]
      have q4 : P4 168 117 = l2 := by
        rw [g4, pq_ne _ _ _ _ (by omega), g3, pq_ne _ _ _ _ (by omega), g2, pq_ne _ _ _ _ (by omega), p1 _ (by omega)]
        exact s17
      have zz : ∀ i : Int, i ≠ 114 → i ≠ 115 → i ≠ 116 → i ≠ 117 → P5 168 i = P1 168 i := fun i i1 i2 i3 i4 => by rw [g5, pq_ne _ _ _ _ i4, g4, pq_ne _ _ _ _ i3, g3, pq_ne _ _ _ _ i1, g2, pq_ne _ _ _ _ i2]
      have TL : K (some (ti 1)) (sh, P5, nx, zl) := by
        refine k P5 ?_ ⟨?_, ?_⟩ ⟨?_, ?_, ?_⟩ ⟨?_, ?_, ?_⟩
        · rw [g5, g4, g3, g2]
          exact mo_trans (mo_trans (mo_trans (mo_trans F2 (mo_put _ _ (by omega))) (mo_put _ _ (by omega))) (mo_put _ _ (by omega))) (mo_put _ _ (by omega))
        · rw [zz _ (by omega) (by omega) (by omega) (by omega), p1 _ (by omega)]
          exact s11
        · rw [zz _ (by omega) (by omega) (by omega) (by omega), p1 _ (by omega)]
          exact s12
        · rw [zz _ (by omega) (by omega) (by omega) (by omega), g1, pq_at]
          rfl
        · rw [g5, pq_ne _ _ _ _ (by omega), g4, pq_ne _ _ _ _ (by omega)]
          exact q3a
        · rw [g5, pq_ne _ _ _ _ (by omega), g4, pq_ne _ _ _ _ (by omega)]
          exact q3b
        · rw [g5, pq_ne _ _ _ _ (by omega), g4, pq_at, q3a, q3b]
          omega
        · rw [g5, pq_at, q4]
        · rw [zz _ (by omega) (by omega) (by omega) (by omega), p1 _ (by omega)]
          exact s18
      rw [g5, g4, g3, g2] at TL
      exact ⟨Or.inr rfl, TL⟩
    rw [g1] at T1
    exact T1
  rcases hx with ⟨x1, x2, x3, x4⟩ | ⟨x1, x2, x3, x4, x5⟩
  · obtain ⟨y1, y2⟩ := h18 x1
    refine ⟨by omega, fun _ => ?_, fun w => by omega⟩
    refine ⟨by omega, fun _ => ?_, fun w => by omega⟩
    exact B55 M (mo_refl M) ⟨rfl, h12⟩ ⟨h16.trans x3.symm, h17.trans x4.symm, y1.trans x2.symm⟩ (by omega)
  · have z1 := x2.1
    have z2 := x2.2.1
    refine ⟨by omega, fun _ => ?_, fun w => by omega⟩
    refine ⟨by omega, fun w => by omega, fun _ => ?_⟩
    obtain ⟨Q1, g1⟩ : ∃ Q1 : FM, Q1 = pq M 168 118 (M 168 116) := ⟨_, rfl⟩
    have F1 : moF M Q1 := by
      rw [g1]
      exact mo_put _ _ (by omega)
    have q16 : Q1 168 116 = a := by rw [g1, pq_ne _ _ _ _ (by omega)]; exact h16
    have T1 : (o_al 0 (o_al 0 (o_al 0 (o_get 12 116 116 (o_ic 4 (o_callv (d + 2) 359 2 12 (o_l2i (o_ic 1 (o_iadd (o_put 12 117 117 (o_al 0 (o_al 0 (o_get 12 116 116 (b364_49 (d + 2) (fW (d + 2) kd364 K) K))))))))))))) : FC) [some (fx 168)] [] (sh, Q1, nx, zl) := by
      refine w4_Y a (mlC_to hL F1) (by omega) (by omega) (fun r4 => ?_)
      obtain ⟨Q2, g2⟩ : ∃ Q2 : FM, Q2 = pq Q1 168 117 (le (lf LR) a 4 + 1) := ⟨_, rfl⟩
      obtain ⟨Q3, g3⟩ : ∃ Q3 : FM, Q3 = pq Q2 168 116 (Q2 168 116 + 12) := ⟨_, rfl⟩
      have TL : b364_55 (d + 2) (fW (d + 2) kd364 K) K [some (fx 168)] [] (sh, Q3, nx, zl) := by
        refine B55 Q3 ?_ ⟨?_, ?_⟩ ⟨?_, ?_, ?_⟩ (by omega)
        · rw [g3, g2]
          exact mo_trans (mo_trans F1 (mo_put _ _ (by omega))) (mo_put _ _ (by omega))
        · rw [g3, pq_ne _ _ _ _ (by omega), g2, pq_ne _ _ _ _ (by omega), g1, pq_ne _ _ _ _ (by omega)]
        · rw [g3, pq_ne _ _ _ _ (by omega), g2, pq_ne _ _ _ _ (by omega), g1, pq_ne _ _ _ _ (by omega)]
          exact h12
        · rw [g3, pq_at, g2, pq_ne _ _ _ _ (by omega), q16, x4]
        · rw [g3, pq_ne _ _ _ _ (by omega), g2, pq_at, x5]
        · rw [g3, pq_ne _ _ _ _ (by omega), g2, pq_ne _ _ _ _ (by omega), g1, pq_at, h16, x3]
      rw [g3, g2] at TL
      exact TL
    rw [g1] at T1
    exact T1
/-- a header of the listing begins so far behind its begin -/
theorem isHeader_Y {j w b e : Int} {E : List (Int × Int)} (hL : mlC M IR IS LR LS B ids F n pl h) (hj : 1 ≤ j ∧ j ≤ n) (hk : kdT (le (lf IR) (pl j) 2) = 1) (hw : 0 ≤ w ∧ w ≤ 4294967296) (hop : opP LR LS (lf IR) (pl j) b e) (hE : wkL IS (lf LR) e b 0 0 E)
    (k0 : ∀ M2 : FM, moF M M2 → (b + w, b + w + 12) ∉ E → K (some (ti 0)) (sh, M2, nx, zl))
    (k1 : ∀ M2 : FM, moF M M2 → (b + w, b + w + 12) ∈ E → nxE (lf LR) e (b + w + 12) → (M2 168 111 = b ∧ M2 168 114 = b + w + 12 + 8 ∧ M2 168 115 = le (lf LR) (b + w + 12 + 6) 2 + 1) → K (some (ti 1)) (sh, M2, nx, zl)) : fm_Y (d + 6) 363 [.ref 168, .int (Int32.ofInt j), .long (Int64.ofInt w)] (sh, M, nx, zl) K := by
  have lr := hL.2.2.2.2.2.1.2
  have hs := hL.2.2.2.2.2.2.1
  have hr := opP_r hs hop
  refine m363 [fx 168, ti j, tj w] ?_
  refine openListing_Y hL hj hk (fun M2 F2 no => absurd hop (no b e)) (fun M2 b2 e2 F2 hop2 hv => ?_)
  obtain ⟨eb, ee⟩ := opP_one hs hop hop2
  rw [eb, ee] at hv
  obtain ⟨v11, v12, v16, v17⟩ := hv
  have L : ∀ (r : List (Int × Int)) (a l hd : Int) (M1 : FM) (y5 : Option TV), moF M M1 → (M1 168 111 = b ∧ M1 168 112 = e ∧ M1 168 116 = a ∧ M1 168 117 = l) → (l ≠ 0 → M1 168 118 = hd ∧ 0 ≤ hd ∧ hd + 12 < a ∧ a ≤ e ∧ l ≤ le (lf LR) hd 4 ∧ b ≤ hd ∧ le (lf LR) hd 4 ≤ 255) → (0 ≤ a ∧ b ≤ a ∧ a ≤ e) → (0 ≤ l ∧ l ≤ 256) → wkL IS (lf LR) e a l hd r → ((b + w, b + w + 12) ∈ E ↔ (b + w, b + w + 12) ∈ r) → fm_X (d + 5) kd363 7 [some (fx 168), some (ti j), some (tj w), none, some (ti 1), y5] [] (sh, M1, nx, zl) K := by
    intro r
    induction r with
    | nil =>
      intro a l hd M1 y5 F1 s1 hh ha hl hw1 hm
      obtain ⟨s11, s12, s16, s17⟩ := s1
      refine s363_7 (d + 5) K _ _ _ ?_
      refine ⟨by omega, fun z => by omega, fun _ => ?_⟩
      refine nextEnd_Y (a := e) s12 (s16.trans hw1.1) (by omega) ?_
      exact ⟨by omega, fun _ => ⟨Or.inl rfl, k0 M1 F1 (fun q => by cases hm.1 q)⟩, fun z => absurd rfl z⟩
    | cons q r ih =>
      intro a l hd M1 y5 F1 s1 hh ha hl hw1 hm
      obtain ⟨s11, s12, s16, s17⟩ := s1
      obtain ⟨l2, n1, n2, n3⟩ := hw1
      obtain ⟨hd2, a2⟩ := q
      dsimp only at n1 n2 n3
      have l6 := le_nn (lf LR) 2 (a2 + 6)
      have E1 := n2.1
      have z3 := le_nn (lf LR) 4 hd2
      have hda : (0 ≤ hd2 ∧ b ≤ hd2 ∧ hd2 + 12 ≤ a2) ∧ (1 ≤ l2 ∧ l2 ≤ 256 ∧ l2 ≤ le (lf LR) hd2 4 + 1 ∧ le (lf LR) hd2 4 ≤ 255) ∧ (l2 = le (lf LR) hd2 4 + 1 ↔ a2 = hd2 + 12) ∧ a ≤ a2 := by
        rcases n1 with z | z
        · obtain ⟨h1, h2, h3, h4, h5, h6, h7⟩ := hh z.1
          obtain ⟨z1, z2, z4, z5⟩ := z
          rw [z2]
          refine ⟨?_, by omega, ⟨fun q => by omega, fun q => by omega⟩, by omega⟩
          omega
        · have z1 := z.2.1.1
          have z2 := z.2.1.2.1
          obtain ⟨y1, y2, y3, y4, y5⟩ := z
          rw [y3] at z3 ⊢
          refine ⟨by omega, by omega, ⟨fun _ => by omega, fun _ => by omega⟩, by omega⟩
      refine s363_7 (d + 5) K _ _ _ ?_
      refine ⟨by omega, fun z => by omega, fun _ => ?_⟩
      refine nextEntry_Y (mlC_to hL F1) s12 s16 s17 (fun z => ⟨(hh z).1, by have := hh z; omega, by have := hh z; omega⟩) ha.1 (by omega) hl n1 n2 (fun M3 F3 t1 t2 t3 => ?_)
      have F13 := mo_trans F1 F3
      have hL3 := mlC_to hL F13
      refine ⟨by omega, fun z => by omega, fun _ => ?_⟩
      refine w4_Y hd2 hL3 (by omega) (by omega) (fun r4 => ?_)
      have NX : (b + w, b + w + 12) ≠ (hd2, a2) → fm_X (d + 5) kd363 7 [some (fx 168), some (ti j), some (tj w), none, some (ti 1), some (ti (le (lf LR) hd2 4 + 1))] [] (sh, M3, nx, zl) K := by
        intro ne
        refine ih (a2 + 9 + le (lf LR) (a2 + 6) 2) (l2 - 1) hd2 M3 _ F13 ⟨t1.1.trans s11, t1.2, t3.1, t3.2.1⟩ (fun z => ⟨t3.2.2, by omega, by omega, by omega, by omega, by omega, by omega⟩) (by omega) (by omega) n3 (hm.trans ⟨fun z => ?_, fun z => List.mem_cons_of_mem _ z⟩)
        rcases List.mem_cons.1 z with y | y
        · exact absurd y ne
        · exact y
      refine ⟨by omega, fun w1 => NX (fun z => ?_), fun w1 => ?_⟩
      · injection z with z1 z2
        have := hda.2.2.1.2 (by omega)
        omega
      have ea : a2 = hd2 + 12 := hda.2.2.1.1 (by omega)
      have e11 : M3 168 111 = b := t1.1.trans s11
      have e18 : M3 168 118 = hd2 := t3.2.2
      refine ⟨by omega, ?_⟩
      refine ⟨by omega, fun w2 => NX (fun z => ?_), fun w2 => ?_⟩
      · injection z with z1 z2
        omega
      · have eh : b + w = hd2 := by omega
        refine ⟨Or.inr rfl, k1 M3 F13 (hm.2 ?_) ?_ ⟨e11, ?_, ?_⟩⟩
        · rw [eh, ea]
          exact List.mem_cons_self
        · rw [eh, ← ea]
          exact n2
        · rw [eh, ← ea]
          exact t2.2.1
        · rw [eh, ← ea]
          exact t2.2.2
  exact L E b 0 0 M2 _ F2 ⟨v11, v12, v16, v17⟩ (fun z => absurd rfl z) (by omega) (by omega) hE Iff.rfl
end MNEXT
