/-! MOUNTING: listings; the class's walk, one entry -/
def chd (lg : Int → Int) (hd a : Int) : Int := le lg (hd + 8) 4 + ((le lg (a + 2) 2 + 32768) % 65536 - 32768)
def hdH (IS : List Int) (lg : Int → Int) (e a : Int) : Prop := a + 12 ≤ e ∧ le lg a 4 ≤ 255 ∧ ∃ i : Int, (0 ≤ i ∧ i < IS.length) ∧ lf IS i = le lg (a + 4) 4
def nxH (IS : List Int) (lg : Int → Int) (e a l hd hd2 a2 l2 : Int) : Prop := (l ≠ 0 ∧ hd2 = hd ∧ a2 = a ∧ l2 = l) ∨ (l = 0 ∧ hdH IS lg e a ∧ hd2 = a ∧ a2 = a + 12 ∧ l2 = le lg a 4 + 1)
def nxE (lg : Int → Int) (e a : Int) : Prop := a + 9 + le lg (a + 6) 2 ≤ e ∧ le lg (a + 6) 2 ≤ 255
def enP (IR IS : List Int) (lg h : Int → Int) (hd a : Int) : Prop := ∃ y : Int, fl IS IR.length (le lg (hd + 4) 4) (le lg a 2) y ∧ (h y ≠ 0 ∧ h y = chd lg hd a) ∧ kdT (le (lf IR) y 2) = le lg (a + 4) 2 ∧ nmF lg (a + 8) (le lg (a + 6) 2 + 1)
/-- the header at hand, in the class -/
def hdC (M : FM) (IS : List Int) (lg : Int → Int) (hd : Int) : Prop := M 100 6 = hd ∧ M 100 9 = le lg (hd + 8) 4 ∧ (0 ≤ M 100 8 ∧ M 100 8 < IS.length) ∧ lf IS (M 100 8) = le lg (hd + 4) 4
theorem hdC_to {M M2 : FM} {IS : List Int} {lg : Int → Int} {hd : Int} (h : hdC M IS lg hd) (e6 : M2 100 6 = M 100 6) (e8 : M2 100 8 = M 100 8) (e9 : M2 100 9 = M 100 9) : hdC M2 IS lg hd := by
  unfold hdC
  rw [e6, e8, e9]
  exact h
section WALKC
variable {d nx zl : Nat} {K : Option TV → FH → Prop} {sh : Nat → Option Shp} {M : FM} {IR IS LR LS : List Int} {B ids F n : Int} {pl h : Int → Int}
theorem l4_Y {p : Int} (hL : ltC M IR IS LR LS B ids F n pl h) (hp : -2147483648 ≤ p ∧ p ≤ 2147483647) (k : ∀ x : Int, (-2147483648 ≤ x ∧ x ≤ 2147483647) → (0 ≤ p → p + 4 ≤ LR.length → (0 ≤ le (lf LR) p 4 ∧ le (lf LR) p 4 < 4294967296) ∧ ((x = le (lf LR) p 4 ∧ le (lf LR) p 4 < 2147483648) ∨ (x = le (lf LR) p 4 - 4294967296 ∧ 2147483648 ≤ le (lf LR) p 4))) → K (some (ti x)) (sh, M, nx, zl)) : fm_Y (d + 1) 61 [.ref 111, .int (Int32.ofInt p)] (sh, M, nx, zl) K := by
  obtain ⟨-, c2, c3, c4⟩ := hL.2.2
  have c1 := c2.1
  refine four_Y (pr109 sh).1.2.1 hp (by omega) (by omega) ?_
  by_cases c : 0 ≤ p ∧ p + 4 ≤ M 111 1
  · have e : r4 (M 112) (M 111 1) p = s32 (le (lf LR) p 4) := by
      unfold r4
      rw [if_pos c, le_cg c3 c.1 4 (by omega)]
    rw [e]
    have q1 := le_nn (lf LR) 4 p
    have q2 := le_lt4 (lf LR) p
    refine k _ (s32_r _) (fun _ _ => ⟨⟨q1, q2⟩, ?_⟩)
    unfold s32
    omega
  · have e : r4 (M 112) (M 111 1) p = 0 := if_neg c
    rw [e]
    exact k 0 (by omega) (fun q1 q2 => by omega)
theorem l2_Y {p : Int} (hL : ltC M IR IS LR LS B ids F n pl h) (hp : -2147483648 ≤ p ∧ p ≤ 2147483647) (k : ∀ x : Int, (0 ≤ x ∧ x < 65536) → (0 ≤ p → p + 2 ≤ LR.length → x = le (lf LR) p 2) → K (some (ti x)) (sh, M, nx, zl)) : fm_Y (d + 1) 129 [.ref 111, .int (Int32.ofInt p)] (sh, M, nx, zl) K := by
  obtain ⟨-, c2, c3, c4⟩ := hL.2.2
  have c1 := c2.1
  refine two_Y (pr109 sh).1.2.1 hp (by omega) (by omega) ?_
  by_cases c : 0 ≤ p ∧ p + 2 ≤ M 111 1
  · have e : r2 (M 112) (M 111 1) p = le (lf LR) p 2 := by
      unfold r2
      rw [if_pos c, le_cg c3 c.1 2 (by omega)]
    rw [e]
    exact k _ ⟨le_nn _ _ _, le_lt2 _ _⟩ (fun _ _ => rfl)
  · have e : r2 (M 112) (M 111 1) p = 0 := if_neg c
    rw [e]
    exact k 0 (by omega) (fun q1 q2 => by omega)
theorem takeHead_Y {a e : Int} (hL : ltC M IR IS LR LS B ids F n pl h) (h4 : M 100 4 = a) (h5 : M 100 5 = e) (ha : 0 ≤ a ∧ a ≤ e) (he : e ≤ LR.length)
    (k0 : ∀ M2 : FM, ¬ hdH IS (lf LR) e a → (∀ c : Nat, c ≠ 100 → M2 c = M c) → (∀ i : Int, i ≠ 8 → M2 100 i = M 100 i) → K (some (ti 0)) (sh, M2, nx, zl))
    (k1 : ∀ M2 : FM, hdH IS (lf LR) e a → (∀ c : Nat, c ≠ 100 → M2 c = M c) → (M2 100 3 = M 100 3 ∧ M2 100 4 = a + 12 ∧ M2 100 5 = e ∧ M2 100 7 = le (lf LR) a 4 + 1) → hdC M2 IS (lf LR) a → K (some (ti 1)) (sh, M2, nx, zl)) : fm_Y (d + 2) 190 [.ref 100] (sh, M, nx, zl) K := by
  have lr := hL.2.2.2.2.2
  refine m190 [fx 100] ?_
  refine l4_Y hL (by omega) (fun x x1 x2 => ?_)
  refine l4_Y hL (by omega) (fun y y1 y2 => ?_)
  refine unsig_Y (y := y % 4294967296) y1 rfl ?_
  refine pieceWith_Y (pr102 sh) hL.2.2.1 (by omega) (fun r hr => ?_)
  obtain ⟨M1, gM1⟩ : ∃ M1 : FM, M1 = pq M 100 8 r := ⟨_, rfl⟩
  have o1 : ∀ c : Nat, c ≠ 100 → M1 c = M c := fun c hc => by rw [gM1, pq_o _ _ _ hc]
  have f1 : ∀ i : Int, i ≠ 8 → M1 100 i = M 100 i := fun i hi => by rw [gM1, pq_ne _ _ _ _ hi]
  have f8 : M1 100 8 = r := by rw [gM1, pq_at]
  have f4 : M1 100 4 = a := by rw [f1 4 (by omega)]; exact h4
  have f5 : M1 100 5 = e := by rw [f1 5 (by omega)]; exact h5
  have hL1 : ltC M1 IR IS LR LS B ids F n pl h := ltC_to hL (fun c hc => o1 c (by omega))
  have p8 := hL.2.2.1.2.2.2.2
  rw [h4] at x2 y2
  have NO : ¬ hdH IS (lf LR) e a → K (some (ti 0)) (sh, M1, nx, zl) := fun q => k0 M1 q o1 f1
  have T1 : (o_al 0 (o_get 9 4 4 (o_al 0 (o_get 9 5 5 (o_ic 12 (b190_52 (d + 1) (fW (d + 1) kd190 K) K))))) : FC) [some (fx 100), some (ti x)] [] (sh, M1, nx, zl) := by
    refine ⟨by omega, fun w1 => ⟨Or.inl rfl, NO (fun q => by have := q.1; omega)⟩, fun w1 => ?_⟩
    have x3 := x2 (by omega) (by omega)
    have y3 := y2 (by omega) (by omega)
    refine ⟨by omega, fun w2 => ⟨Or.inl rfl, NO (fun q => by have := q.2.1; omega)⟩, fun w2 => ?_⟩
    refine ⟨by omega, fun w3 => ⟨Or.inl rfl, NO (fun q => by have := q.2.1; omega)⟩, fun w3 => ?_⟩
    have ey : y % 4294967296 = le (lf LR) (a + 4) 4 := by omega
    rw [ey] at hr
    refine ⟨by omega, fun w4 => ?_, fun w4 => ⟨Or.inl rfl, NO (fun q => ?_)⟩⟩
    rotate_left
    · obtain ⟨i, i1, i2⟩ := q.2.2
      rcases hr with z | z
      · exact z.2 i i1.1 i1.2 i2
      · omega
    have hr2 : (0 ≤ r ∧ r < IS.length) ∧ lf IS r = le (lf LR) (a + 4) 4 := by
      rcases hr with z | z
      · omega
      · exact z
    refine l4_Y hL1 (by omega) (fun b b1 b2 => ?_)
    rw [f4] at b2
    have b3 := b2 (by omega) (by omega)
    refine unsig_Y (y := le (lf LR) (a + 8) 4) b1 (by omega) ?_
    obtain ⟨P1, g1⟩ : ∃ P1 : FM, P1 = pq M1 100 9 (le (lf LR) (a + 8) 4) := ⟨_, rfl⟩
    obtain ⟨P2, g2⟩ : ∃ P2 : FM, P2 = pq P1 100 6 (P1 100 4) := ⟨_, rfl⟩
    obtain ⟨P3, g3⟩ : ∃ P3 : FM, P3 = pq P2 100 7 (x + 1) := ⟨_, rfl⟩
    obtain ⟨P4, g4⟩ : ∃ P4 : FM, P4 = pq P3 100 4 (P3 100 4 + 12) := ⟨_, rfl⟩
    have q14 : P1 100 4 = a := by rw [g1, pq_ne _ _ _ _ (by omega)]; exact f4
    have q34 : P3 100 4 = a := by rw [g3, pq_ne _ _ _ _ (by omega), g2, pq_ne _ _ _ _ (by omega)]; exact q14
    have TL : K (some (ti 1)) (sh, P4, nx, zl) := by
      refine k1 P4 ⟨by omega, by omega, r, hr2.1, hr2.2⟩ (fun c hc => ?_) ⟨?_, ?_, ?_, ?_⟩ ⟨?_, ?_, ?_, ?_⟩
      · rw [g4, pq_o _ _ _ hc, g3, pq_o _ _ _ hc, g2, pq_o _ _ _ hc, g1, pq_o _ _ _ hc]
        exact o1 c hc
      · rw [g4, pq_ne _ _ _ _ (by omega), g3, pq_ne _ _ _ _ (by omega), g2, pq_ne _ _ _ _ (by omega), g1, pq_ne _ _ _ _ (by omega)]
        exact f1 3 (by omega)
      · rw [g4, pq_at, q34]
      · rw [g4, pq_ne _ _ _ _ (by omega), g3, pq_ne _ _ _ _ (by omega), g2, pq_ne _ _ _ _ (by omega), g1, pq_ne _ _ _ _ (by omega)]
        exact f5
      · rw [g4, pq_ne _ _ _ _ (by omega), g3, pq_at]
        omega
      · rw [g4, pq_ne _ _ _ _ (by omega), g3, pq_ne _ _ _ _ (by omega), g2, pq_at]
        exact q14
      · rw [g4, pq_ne _ _ _ _ (by omega), g3, pq_ne _ _ _ _ (by omega), g2, pq_ne _ _ _ _ (by omega), g1, pq_at]
      · rw [g4, pq_ne _ _ _ _ (by omega), g3, pq_ne _ _ _ _ (by omega), g2, pq_ne _ _ _ _ (by omega), g1, pq_ne _ _ _ _ (by omega), f8]
        exact hr2.1
      · rw [g4, pq_ne _ _ _ _ (by omega), g3, pq_ne _ _ _ _ (by omega), g2, pq_ne _ _ _ _ (by omega), g1, pq_ne _ _ _ _ (by omega), f8]
        exact hr2.2
    rw [g4, g3, g2, g1] at TL
    exact ⟨Or.inr rfl, TL⟩
  rw [gM1] at T1
  exact T1
theorem next_Y {a e l hd : Int} (hL : ltC M IR IS LR LS B ids F n pl h) (h4 : M 100 4 = a) (h5 : M 100 5 = e) (h7 : M 100 7 = l) (hh : l ≠ 0 → hdC M IS (lf LR) hd) (ha : 0 ≤ a ∧ a ≤ e) (he : e ≤ LR.length) (hl : 0 ≤ l ∧ l ≤ 256)
    (k0 : ∀ M2 : FM, (∀ hd2 a2 l2 : Int, nxH IS (lf LR) e a l hd hd2 a2 l2 → ¬ nxE (lf LR) e a2) → (∀ c : Nat, c ≠ 100 → M2 c = M c) → (M2 100 3 = M 100 3 ∧ M2 100 5 = e) → (M2 100 4 = e ∧ M2 100 7 = 0 ↔ a = e ∧ l = 0) → (0 ≤ M2 100 4 ∧ M2 100 4 ≤ e ∧ 0 ≤ M2 100 7 ∧ M2 100 7 ≤ 256) → K (some (ti 0)) (sh, M2, nx, zl))
    (k1 : ∀ (M2 : FM) (hd2 a2 l2 : Int), nxH IS (lf LR) e a l hd hd2 a2 l2 → nxE (lf LR) e a2 → (∀ c : Nat, c ≠ 100 → M2 c = M c) → (M2 100 3 = M 100 3 ∧ M2 100 4 = a2 + 9 + le (lf LR) (a2 + 6) 2 ∧ M2 100 5 = e ∧ M2 100 7 = l2 - 1) → (M2 100 10 = a2 + 8 ∧ M2 100 11 = le (lf LR) (a2 + 6) 2 + 1 ∧ M2 100 12 = a2) → hdC M2 IS (lf LR) hd2 → K (some (ti 1)) (sh, M2, nx, zl)) : fm_Y (d + 3) 189 [.ref 100] (sh, M, nx, zl) K := by
  have lr := hL.2.2.2.2.2
  refine m189 [fx 100] ?_
  have B27 : ∀ (M1 : FM) (hd2 a2 l2 : Int), nxH IS (lf LR) e a l hd hd2 a2 l2 → (∀ c : Nat, c ≠ 100 → M1 c = M c) → (M1 100 3 = M 100 3 ∧ M1 100 4 = a2 ∧ M1 100 5 = e ∧ M1 100 7 = l2) → hdC M1 IS (lf LR) hd2 → (0 ≤ a2 ∧ a2 ≤ e ∧ 1 ≤ l2 ∧ l2 ≤ 256) → (∀ x y z : Int, nxH IS (lf LR) e a l hd x y z → y = a2) → b189_27 (d + 2) (fW (d + 2) kd189 K) K [some (fx 100)] [] (sh, M1, nx, zl) := by
    intro M1 hd2 a2 l2 hx o1 hv hc hr hu
    obtain ⟨v3, v4, v5, v7⟩ := hv
    obtain ⟨P1, g1⟩ : ∃ P1 : FM, P1 = pq M1 100 10 (M1 100 4 + 8) := ⟨_, rfl⟩
    have p1 : ∀ i : Int, i ≠ 10 → P1 100 i = M1 100 i := fun i hi => by rw [g1, pq_ne _ _ _ _ hi]
    have p10 : P1 100 10 = a2 + 8 := by rw [g1, pq_at, v4]
    have po : ∀ c : Nat, c ≠ 100 → P1 c = M c := fun c hc => by rw [g1, pq_o _ _ _ hc]; exact o1 c hc
    have p4 : P1 100 4 = a2 := by rw [p1 4 (by omega)]; exact v4
    have T1 : (o_al 0 (o_al 0 (o_get 9 2 2 (o_al 0 (o_get 9 4 4 (o_ic 6 (o_iadd (o_callv (d + 2) 129 1 1 (o_ic 1 (o_iadd (o_put 9 11 11 (o_al 0 (o_get 9 10 10 (o_al 0 (o_get 9 5 5 (o_icmp .gt (b189_95 (d + 2) (fW (d + 2) kd189 K) K) (o_al 0 (o_get 9 11 11 (o_ic 256 (b189_76 (d + 2) (fW (d + 2) kd189 K) K))))))))))))))))))) : FC) [some (fx 100)] [] (sh, P1, nx, zl) := by
      refine l2_Y (ltC_to hL (fun c hc => po c (by omega))) (by omega) (fun x x1 x2 => ?_)
      rw [p4] at x2
      obtain ⟨P2, g2⟩ : ∃ P2 : FM, P2 = pq P1 100 11 (x + 1) := ⟨_, rfl⟩
      have q2 : ∀ i : Int, i ≠ 11 → P2 100 i = P1 100 i := fun i hi => by rw [g2, pq_ne _ _ _ _ hi]
      have q11 : P2 100 11 = x + 1 := by rw [g2, pq_at]
      have q10 : P2 100 10 = a2 + 8 := by rw [q2 10 (by omega)]; exact p10
      have q4 : P2 100 4 = a2 := by rw [q2 4 (by omega)]; exact p4
      have q5 : P2 100 5 = e := by rw [q2 5 (by omega), p1 5 (by omega)]; exact v5
      have q3 : P2 100 3 = M 100 3 := by rw [q2 3 (by omega), p1 3 (by omega)]; exact v3
      have q7 : P2 100 7 = l2 := by rw [q2 7 (by omega), p1 7 (by omega)]; exact v7
      have qo : ∀ c : Nat, c ≠ 100 → P2 c = M c := fun c hc => by rw [g2, pq_o _ _ _ hc]; exact po c hc
      have NO : ¬ nxE (lf LR) e a2 → K (some (ti 0)) (sh, P2, nx, zl) := by
        intro q
        refine k0 P2 (fun x y z hz => by rw [hu x y z hz]; exact q) qo ⟨q3, q5⟩ ⟨fun z => by omega, fun z => ?_⟩ (by omega)
        exfalso
        rcases hx with c | c
        · omega
        · have := c.2.1.1
          omega
      have T2 : (o_al 0 (o_get 9 10 10 (o_al 0 (o_get 9 5 5 (o_icmp .gt (b189_95 (d + 2) (fW (d + 2) kd189 K) K) (o_al 0 (o_get 9 11 11 (o_ic 256 (b189_76 (d + 2) (fW (d + 2) kd189 K) K)))))))) : FC) [some (fx 100)] [] (sh, P2, nx, zl) := by
        have lx := le_nn (lf LR) 2 (a2 + 6)
        refine ⟨by omega, fun w1 => ⟨Or.inl rfl, NO (fun q => by have := q.1; omega)⟩, fun w1 => ?_⟩
        have ex := x2 (by omega) (by omega)
        refine ⟨by omega, fun w2 => ⟨Or.inl rfl, NO (fun q => by have := q.2; omega)⟩, fun w2 => ?_⟩
        refine ⟨by omega, fun w3 => ?_, fun w3 => ⟨Or.inl rfl, NO (fun q => by have := q.1; omega)⟩⟩
        obtain ⟨Q1, h1⟩ : ∃ Q1 : FM, Q1 = pq P2 100 12 (P2 100 4) := ⟨_, rfl⟩
        obtain ⟨Q2, h2⟩ : ∃ Q2 : FM, Q2 = pq Q1 100 4 (Q1 100 10 + Q1 100 11) := ⟨_, rfl⟩
        obtain ⟨Q3, h3⟩ : ∃ Q3 : FM, Q3 = pq Q2 100 7 (Q2 100 7 - 1) := ⟨_, rfl⟩
        have z : ∀ i : Int, i ≠ 12 → i ≠ 4 → i ≠ 7 → Q3 100 i = P2 100 i := fun i i1 i2 i3 => by rw [h3, pq_ne _ _ _ _ i3, h2, pq_ne _ _ _ _ i2, h1, pq_ne _ _ _ _ i1]
        have z6 : ∀ i : Int, i ≠ 10 → i ≠ 11 → i ≠ 12 → i ≠ 4 → i ≠ 7 → Q3 100 i = M1 100 i := fun i i1 i2 i3 i4 i5 => by rw [z i i3 i4 i5, q2 i i2, p1 i i1]
        have TL : K (some (ti 1)) (sh, Q3, nx, zl) := by
          refine k1 Q3 hd2 a2 l2 hx ⟨by omega, by omega⟩ (fun c hc => ?_) ⟨?_, ?_, ?_, ?_⟩ ⟨?_, ?_, ?_⟩ (hdC_to hc (z6 6 (by omega) (by omega) (by omega) (by omega) (by omega)) (z6 8 (by omega) (by omega) (by omega) (by omega) (by omega)) (z6 9 (by omega) (by omega) (by omega) (by omega) (by omega)))
          · rw [h3, pq_o _ _ _ hc, h2, pq_o _ _ _ hc, h1, pq_o _ _ _ hc]
            exact qo c hc
          · rw [z 3 (by omega) (by omega) (by omega)]
            exact q3
          · rw [h3, pq_ne _ _ _ _ (by omega), h2, pq_at, h1, pq_ne _ _ _ _ (by omega), pq_ne _ _ _ _ (by omega), q10, q11]
            omega
          · rw [z 5 (by omega) (by omega) (by omega)]
            exact q5
          · rw [h3, pq_at, h2, pq_ne _ _ _ _ (by omega), h1, pq_ne _ _ _ _ (by omega), q7]
          · rw [z 10 (by omega) (by omega) (by omega)]
            exact q10
          · rw [z 11 (by omega) (by omega) (by omega), q11]
            omega
          · rw [h3, pq_ne _ _ _ _ (by omega), h2, pq_ne _ _ _ _ (by omega), h1, pq_at]
            exact q4
        rw [h3, h2, h1] at TL
        exact ⟨Or.inr rfl, TL⟩
      rw [g2] at T2
      exact T2
    rw [g1] at T1
    exact T1
  refine ⟨by omega, fun w => ?_, fun w => ?_⟩
  · refine B27 M hd a l (Or.inl ⟨by omega, rfl, rfl, rfl⟩) (fun c _ => rfl) ⟨rfl, h4, h5, h7⟩ (hh (by omega)) (by omega) (fun x y z hz => ?_)
    rcases hz with q | q
    · exact q.2.2.1
    · omega
  refine ⟨by omega, fun w1 => ⟨Or.inl rfl, k0 M (fun x y z hz => ?_) (fun c _ => rfl) ⟨rfl, h5⟩ (by rw [h4, h7]) (by omega)⟩, fun w1 => ?_⟩
  · rcases hz with q | q
    · omega
    · have := q.2.1.1
      omega
  refine takeHead_Y hL h4 h5 ha he (fun M1 q o1 f1 => ?_) (fun M1 q o1 f1 c1 => ?_)
  · refine ⟨by omega, fun z => absurd rfl z, fun _ => ⟨Or.inl rfl, k0 M1 (fun x y z hz => ?_) o1 ⟨f1 3 (by omega), by rw [f1 5 (by omega)]; exact h5⟩ (by rw [f1 4 (by omega), f1 7 (by omega), h4, h7]) (by rw [f1 4 (by omega), f1 7 (by omega)]; omega)⟩⟩
    rcases hz with c | c
    · omega
    · exact absurd c.2.1 q
  · have q1 := q.1
    have q2 := q.2.1
    have q3 := le_nn (lf LR) 4 a
    refine ⟨by omega, fun _ => ?_, fun z => by omega⟩
    refine B27 M1 a (a + 12) (le (lf LR) a 4 + 1) (Or.inr ⟨by omega, q, rfl, rfl, rfl⟩) o1 f1 c1 (by omega) (fun x y z hz => ?_)
    rcases hz with c | c
    · omega
    · exact c.2.2.2.1
end WALKC
