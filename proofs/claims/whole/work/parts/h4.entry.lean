/-! MOUNTING: listings; the class's entries and indexes -/
def nmS (lg : Int → Int) (a : Int) : List Int := sl lg (a + 8) (le lg (a + 6) 2 + 1).toNat
def idP (g lg : Int → Int) (LS : List Int) (hd a ix : Int) : Prop := le g (ix + 4) 4 = lf LS (hd / 8192) ∧ sl g (ix + 12) (le g (ix + 8) 4 + 1).toNat = nmS lg a
theorem sl_agr {f g : Int → Int} {N a : Int} {m : Nat} (h : agr f g N) (h0 : 0 ≤ a) (h1 : a + m ≤ N) : sl f a m = sl g a m := sl_congr m a a (fun i hi => h _ (by omega) (by omega))
theorem nm_agr {f g : Int → Int} {N a m : Int} (h : agr f g N) (h0 : 0 ≤ a) (h1 : a + m ≤ N) : nmF f a m ↔ nmF g a m := ⟨fun q => nmF_congr (fun i i0 i1 => h _ (by omega) (by omega)) q, fun q => nmF_congr (fun i i0 i1 => (h _ (by omega) (by omega)).symm) q⟩
def exY (IR IS : List Int) (h : Int → Int) (s o q : Int) : Prop := ∃ y : Int, fl IS IR.length s o y ∧ q = h y
section ENTC
variable {d nx zl : Nat} {K : Option TV → FH → Prop} {sh : Nat → Option Shp} {M : FM} {IR IS LR LS : List Int} {B ids F n : Int} {pl h : Int → Int}
theorem child_Y {hd a e : Int} (hL : ltC M IR IS LR LS B ids F n pl h) (hc : hdC M IS (lf LR) hd) (h12 : M 100 12 = a) (ha : 0 ≤ a) (hE : nxE (lf LR) e a) (he : e ≤ LR.length) (k : (-40000 ≤ chd (lf LR) hd a ∧ chd (lf LR) hd a ≤ 4295100000) → K (some (tj (chd (lf LR) hd a))) (sh, M, nx, zl)) : fm_Y (d + 2) 192 [.ref 100] (sh, M, nx, zl) K := by
  have lr := hL.2.2.2.2.2
  have l0 := le_nn (lf LR) 2 (a + 6)
  have e1 := hE.1
  refine m192 [fx 100] ?_
  refine l2_Y hL (by omega) (fun x x1 x2 => ?_)
  rw [h12] at x2
  have ex := x2 (by omega) (by omega)
  refine ⟨by omega, ?_⟩
  have e9 := hc.2.1
  have l9 := le_nn (lf LR) 4 (hd + 8)
  have l9' := le_lt4 (lf LR) (hd + 8)
  have ec : chd (lf LR) hd a = le (lf LR) (hd + 8) 4 + ((le (lf LR) (a + 2) 2 + 32768) % 65536 - 32768) := rfl
  have T := k (by rw [ec]; omega)
  rw [ec, ← e9, ← ex] at T
  exact T
theorem entryHolds_Y {hd a e : Int} (hL : ltC M IR IS LR LS B ids F n pl h) (hc : hdC M IS (lf LR) hd) (h12 : M 100 12 = a) (h10 : M 100 10 = a + 8) (h11 : M 100 11 = le (lf LR) (a + 6) 2 + 1) (ha : 0 ≤ a) (hE : nxE (lf LR) e a) (he : e ≤ LR.length) (k : ∀ z : Int, (z = 1 ∧ enP IR IS (lf LR) h hd a ∨ z = 0 ∧ ¬ enP IR IS (lf LR) h hd a) → K (some (ti z)) (sh, M, nx, zl)) : fm_Y (d + 4) 191 [.ref 100] (sh, M, nx, zl) K := by
  have lr := hL.2.2.2.2.2
  have l0 := le_nn (lf LR) 2 (a + 6)
  have e1 := hE.1
  have e2 := hE.2
  have hB := hL.1.1.2.1.2.1
  have nr := hL.1.2.1
  have hv := hL.2.1
  obtain ⟨c6, c9, c8, cs⟩ := id hc
  have NO : ¬ enP IR IS (lf LR) h hd a → K (some (ti 0)) (sh, M, nx, zl) := fun q => k 0 (Or.inr ⟨rfl, q⟩)
  refine m191 [fx 100] ?_
  refine l2_Y hL (by omega) (fun x x1 x2 => ?_)
  rw [h12] at x2
  have ex := x2 (by omega) (by omega)
  refine flat_Y (pr102 sh) hL.2.2.1 (Or.inr c8) (by omega) (fun r hr => ?_)
  have v6 := hL.2.2.1.2.2.2.1.1
  have v8 := hL.2.2.1.2.2.2.2
  have n65 := hL.1.1.1.2.2.2
  have B42 : ∀ q : Int, ((∃ y : Int, fl IS IR.length (le (lf LR) (hd + 4) 4) (le (lf LR) a 2) y ∧ q = h y) ∨ (∀ y : Int, ¬ fl IS IR.length (le (lf LR) (hd + 4) 4) (le (lf LR) a 2) y) ∧ q = 0) → b191_42 (d + 3) (fW (d + 3) kd191 K) K [some (fx 100), some (ti r), none] [ti q] (sh, M, nx, zl) := by
    intro q hq
    have rq : q = 0 ∨ (1 ≤ q ∧ q ≤ n) := by
      rcases hq with ⟨y, y1, y2⟩ | ⟨y1, y2⟩
      · by_cases c : h y = 0
        · omega
        · have := (hv.2 y c).2.1
          omega
      · omega
    have Z : ∀ Y : Int, fl IS IR.length (le (lf LR) (hd + 4) 4) (le (lf LR) a 2) Y → q = h Y := by
      intro Y hY
      rcases hq with ⟨y, y1, y2⟩ | ⟨y1, y2⟩
      · rw [y2, fl_one hL.2.2.1.2.2.2.1 y1 hY]
      · exact absurd hY (y1 Y)
    have NZ : q ≠ 0 → exY IR IS h (le (lf LR) (hd + 4) 4) (le (lf LR) a 2) q := by
      intro q0
      rcases hq with z | z
      · exact z
      · exact absurd z.2 q0
    clear hq
    refine ⟨by omega, fun w => ⟨Or.inl rfl, NO (fun z => ?_)⟩, fun w => ?_⟩
    · obtain ⟨y, y1, y2, y3, y4⟩ := z
      have := Z y y1
      exact y2.1 (by omega)
    obtain ⟨y, y1, y2⟩ := NZ w
    have hy : h y ≠ 0 := by omega
    have py := (hv.2 y hy).2.2
    refine ⟨by omega, ?_⟩
    refine child_Y hL hc h12 ha hE he (fun cr => ?_)
    refine ⟨by omega, fun w2 => ⟨Or.inl rfl, NO (fun z => ?_)⟩, fun w2 => ?_⟩
    · obtain ⟨y', z1, z2, z3, z4⟩ := z
      have := Z y' z1
      exact w2 (by omega)
    refine kindOf_Y hL (by omega) ?_
    rw [y2, py]
    obtain ⟨-, hd2⟩ := nd_ok hB hv (show 1 ≤ q by omega) (show q ≤ n by omega)
    rw [y2, py] at hd2
    have kr : 1 ≤ kdT (le (lf IR) y 2) ∧ kdT (le (lf IR) y 2) ≤ 7 := by
      have := hd2.2.1
      unfold kdT
      split <;> omega
    refine l2_Y hL (by omega) (fun u u1 u2 => ?_)
    rw [h12] at u2
    have eu := u2 (by omega) (by omega)
    refine ⟨by omega, fun w3 => ⟨Or.inl rfl, NO (fun z => ?_)⟩, fun w3 => ?_⟩
    · obtain ⟨y', z1, z2, z3, z4⟩ := z
      have ey := fl_one hL.2.2.1.2.2.2.1 z1 y1
      rw [ey] at z3
      exact w3 (by omega)
    have na := nm_agr hL.2.2.2.2.1 (show 0 ≤ a + 8 by omega) (show a + 8 + (le (lf LR) (a + 6) 2 + 1) ≤ LR.length by omega)
    refine isName_Y (pr109 sh).1.2.1.1.2 (by omega) (by omega) (by omega) (by omega) (fun q1 => ?_) (fun q1 => ?_)
    · rw [h10, h11] at q1
      exact ⟨by omega, fun z => by omega, fun _ => ⟨Or.inr rfl, k 1 (Or.inl ⟨rfl, y, y1, ⟨hy, by omega⟩, by omega, na.1 q1⟩)⟩⟩
    · rw [h10, h11] at q1
      refine ⟨by omega, fun _ => ⟨Or.inl rfl, NO (fun z => ?_)⟩, fun z => absurd rfl z⟩
      obtain ⟨y', z1, z2, z3, z4⟩ := z
      exact q1 (na.2 z4)
  rw [ex] at hr
  refine ⟨by omega, fun w => ?_, fun w => ?_⟩
  · refine numberAt_Y hL.1.2.1.1 (by omega) (by omega) (by omega) hL.1.2.2.2 ?_
    refine B42 (h r) (Or.inl ⟨r, ⟨M 100 8, c8, cs, by omega, by omega, by omega⟩, rfl⟩)
  · refine B42 0 (Or.inr ⟨fun y hy => ?_, rfl⟩)
    obtain ⟨j, j1, j2, j3, j4, j5⟩ := hy
    have : M 100 8 = j := by
      have sh3 := hL.2.2.1.2.2.2.1.2.2
      by_cases c : M 100 8 < j
      · have := sh3 _ j c8.1 c j1.2
        omega
      · by_cases c2 : j < M 100 8
        · have := sh3 j _ j1.1 c2 c8.2
          omega
        · omega
    omega
theorem startAt_Y {q : Int} (hL : ltC M IR IS LR LS B ids F n pl h) (hq : 0 ≤ q ∧ q < LR.length) (k : (0 ≤ lf LS (q / 8192) ∧ lf LS (q / 8192) ≤ 131072) → K (some (ti (lf LS (q / 8192)))) (sh, M, nx, zl)) : fm_Y (d + 1) 111 [.ref 109, .int (Int32.ofInt q)] (sh, M, nx, zl) K := by
  obtain ⟨v1, v2, v3, v4, v5⟩ := hL.2.2.2.1
  have v6 := v4.1
  refine m111 [fx 109, ti q] ?_
  refine ⟨by omega, ?_⟩
  refine ⟨by omega, ?_⟩
  have e := v3 (q / 8192) (by omega) (by omega)
  have r := v4.2.1 (q / 8192) (by omega) (by omega)
  rw [← e] at k r
  exact k r
theorem indexHolds_Y {hd a e ix : Int} (hL : ltC M IR IS LR LS B ids F n pl h) (h6 : M 100 6 = hd) (h10 : M 100 10 = a + 8) (h11 : M 100 11 = le (lf LR) (a + 6) 2 + 1) (ha : 0 ≤ a) (hE : nxE (lf LR) e a) (he : e ≤ LR.length) (hhd : 0 ≤ hd ∧ hd < LR.length) (hix : 0 ≤ ix ∧ ix + 13 + le (lf IR) (ix + 8) 4 ≤ IR.length) (k : ∀ z : Int, (z = 1 ∧ idP (lf IR) (lf LR) LS hd a ix ∨ z = 0 ∧ ¬ idP (lf IR) (lf LR) LS hd a ix) → K (some (ti z)) (sh, M, nx, zl)) : fm_Y (d + 3) 194 [.ref 100, .int (Int32.ofInt ix)] (sh, M, nx, zl) K := by
  have lr := hL.2.2.2.2.2
  have l0 := le_nn (lf LR) 2 (a + 6)
  have l1 := le_nn (lf IR) 4 (ix + 8)
  have e1 := hE.1
  have e2 := hE.2
  have n65 := hL.1.1.1.2.2.2
  refine m194 [fx 100, ti ix] ?_
  refine g4i_Y hL.1.1 (by omega) (fun x x1 x2 x3 => ?_)
  refine startAt_Y hL (by omega) (fun sr => ?_)
  rw [h6] at sr ⊢
  refine ⟨by omega, fun w => ⟨Or.inl rfl, k 0 (Or.inr ⟨rfl, fun q => w (by have := q.1; omega)⟩)⟩, fun w => ?_⟩
  refine g4i_Y hL.1.1 (by omega) (fun y y1 y2 y3 => ?_)
  have ey : y = le (lf IR) (ix + 8) 4 := by omega
  rw [ey]
  refine m195 [fx 100, fx 105, ti (ix + 12), ti (le (lf IR) (ix + 8) 4 + 1)] ?_
  refine order_I (pr109 sh).1.2.1.1.2 (pr102 sh).1.2.1.1.2 (by omega) (by omega) (by omega) (by omega) (by omega) (by omega) (by omega) (by omega) ?_
  have oe := ordL_eq (sl (M 112) (M 100 10) (M 100 11).toNat) (sl (M 105) (ix + 12) (le (lf IR) (ix + 8) 4 + 1).toNat)
  have orr := ordL_sl (M 112) (M 105) (M 100 10) (ix + 12) (M 100 11).toNat (le (lf IR) (ix + 8) 4 + 1).toNat
  have s1 : sl (M 112) (M 100 10) (M 100 11).toNat = nmS (lf LR) a := by
    rw [h10, h11]
    exact sl_agr hL.2.2.2.2.1 (by omega) (by omega)
  have s2 : sl (M 105) (ix + 12) (le (lf IR) (ix + 8) 4 + 1).toNat = sl (lf IR) (ix + 12) (le (lf IR) (ix + 8) 4 + 1).toNat := sl_agr hL.1.1.1.2.1 (by omega) (by omega)
  rw [s1, s2] at oe
  rw [s1, s2] at orr ⊢
  refine ⟨by omega, fun w2 => ⟨Or.inl rfl, ⟨by omega, fun _ => ⟨Or.inl rfl, k 0 (Or.inr ⟨rfl, fun q => w2 (oe.2 q.2.symm)⟩)⟩, fun z => absurd rfl z⟩⟩, fun w2 => ⟨Or.inr rfl, ⟨by omega, fun z => by omega, fun _ => ⟨Or.inr rfl, k 1 (Or.inl ⟨rfl, by omega, (oe.1 w2).symm⟩)⟩⟩⟩⟩
theorem count_Y {f c : Int} (hL : ltC M IR IS LR LS B ids F n pl h) (hf : 1 ≤ f ∧ f ≤ n) (hc : 1 ≤ c ∧ c ≤ n) (k : ∀ M2 : FM, (∀ x : Nat, (x < 113 ∨ 116 < x) → M2 x = M x) → M2 115 = ur (M 115) f (M 115 f + 1) → M2 113 = ur (M 113) c (M 113 c + 1) → M2 114 = ur (M 114) c f → M2 116 = (if kdT (le (lf IR) (pl c) 2) = 1 then ur (M 116) f (M 116 f + 1) else M 116) → K none (sh, M2, nx, zl)) : fm_Y (d + 3) 193 [.ref 100, .int (Int32.ofInt f), .int (Int32.ofInt c)] (sh, M, nx, zl) K := by
  have nr := hL.1.2.1
  obtain ⟨a, b⟩ := nd_ok hL.1.1.2.1.2.1 hL.2.1 hc.1 hc.2
  have kr : 1 ≤ kdT (le (lf IR) (pl c) 2) ∧ kdT (le (lf IR) (pl c) 2) ≤ 7 := by
    have := b.2.1
    unfold kdT
    split <;> omega
  refine m193 [fx 100, ti f, ti c] ?_
  refine ⟨by omega, ?_⟩
  refine ⟨by omega, ?_⟩
  refine ⟨by omega, ?_⟩
  refine ⟨by omega, ?_⟩
  refine ⟨by omega, ?_⟩
  obtain ⟨P1, g1⟩ : ∃ P1 : FM, P1 = pq M 115 f (M 115 f + 1) := ⟨_, rfl⟩
  obtain ⟨P2, g2⟩ : ∃ P2 : FM, P2 = pq P1 113 c (P1 113 c + 1) := ⟨_, rfl⟩
  obtain ⟨P3, g3⟩ : ∃ P3 : FM, P3 = pq P2 114 c f := ⟨_, rfl⟩
  have o : ∀ x : Nat, (x < 113 ∨ 116 < x) → P3 x = M x := fun x hx => by rw [g3, pq_o _ _ _ (by omega), g2, pq_o _ _ _ (by omega), g1, pq_o _ _ _ (by omega)]
  have e116 : P3 116 = M 116 := by rw [g3, pq_o _ _ _ (by omega), g2, pq_o _ _ _ (by omega), g1, pq_o _ _ _ (by omega)]
  have e115 : P3 115 = ur (M 115) f (M 115 f + 1) := by
    rw [g3, pq_o _ _ _ (by omega), g2, pq_o _ _ _ (by omega), g1]
    exact um_at _ _ _
  have e113 : P3 113 = ur (M 113) c (M 113 c + 1) := by
    rw [g3, pq_o _ _ _ (by omega), g2]
    have : P1 113 = M 113 := by rw [g1, pq_o _ _ _ (by omega)]
    unfold pq
    rw [um_at, this]
  have e114 : P3 114 = ur (M 114) c f := by
    rw [g3]
    have : P2 114 = M 114 := by rw [g2, pq_o _ _ _ (by omega), g1, pq_o _ _ _ (by omega)]
    unfold pq
    rw [um_at, this]
  have T1 : (o_al 0 (o_get 9 0 0 (o_il 2 (o_callv (d + 2) 183 1 10 (b193_35 (d + 2) (fW (d + 2) kd193 K) K)))) : FC) [some (fx 100), some (ti f), some (ti c)] [] (sh, P3, nx, zl) := by
    refine kindOf_Y (ltC_to hL (fun x hx => o x (by omega))) hc ?_
    refine ⟨by omega, fun w => ?_, fun w => ?_⟩
    · refine k P3 o e115 e113 e114 ?_
      rw [if_neg w]
      exact e116
    · refine ⟨by omega, ?_⟩
      refine ⟨by omega, ?_⟩
      obtain ⟨P4, g4⟩ : ∃ P4 : FM, P4 = pq P3 116 f (P3 116 f + 1) := ⟨_, rfl⟩
      have TL : K none (sh, P4, nx, zl) := by
        refine k P4 (fun x hx => ?_) ?_ ?_ ?_ ?_
        · rw [g4, pq_o _ _ _ (by omega)]
          exact o x hx
        · rw [g4, pq_o _ _ _ (by omega)]
          exact e115
        · rw [g4, pq_o _ _ _ (by omega)]
          exact e113
        · rw [g4, pq_o _ _ _ (by omega)]
          exact e114
        · rw [if_pos w, g4]
          unfold pq
          rw [um_at, e116]
      rw [g4] at TL
      exact TL
  rw [g3, g2, g1] at T1
  exact T1
end ENTC
