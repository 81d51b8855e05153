/-! THE TREE WITH A NODE MORE, that has no entry yet -/
def mkB (M Mx : FM) (F x kind giv t : Int) (T : List Int) (af nx : Nat) : Prop :=
  (Mx 168 5 = x + 1 ∧ Mx 168 17 = M 168 17 ∧ Mx 168 19 = M 168 19 + t ∧ Mx 168 20 = M 168 20 ∧ Mx 168 26 = M 168 26)
  ∧ (Mx 171 = ur (M 171) x kind ∧ Mx 172 = ur (M 172) x (if kind = 1 then 493 else 420) ∧ Mx 173 = ur (M 173) x 0 ∧ Mx 174 = ur (M 174) x 0 ∧ Mx 175 = ur (M 175) x 0 ∧ Mx 176 = ur (M 176) x giv ∧ Mx 177 = ur (M 177) x 0 ∧ Mx 178 = ur (M 178) x F ∧ Mx 179 = ur (M 179) x (if kind = 3 then M 168 19 else M 168 17) ∧ Mx 180 = ur (M 180) x t)
  ∧ ((∀ i : Int, 0 ≤ i → i < M 168 19 → Mx 182 i = M 182 i) ∧ sl (Mx 182) (M 168 19) t.toNat = T)
  ∧ (Mx 8 2 = x + 1 ∧ Mx 8 7 = M 8 7 ∧ Mx 8 8 = M 8 8 ∧ Mx 8 9 = M 8 9 + t ∧ Mx 11 = ur (M 11) x nx)
  ∧ (∀ i : Int, i ≠ 13 → Mx nx i = nodeF x kind giv (M af 4 + 1) i)
  ∧ (kind = 3 → Mx (nx + 1) 1 = t ∧ sl (Mx (nx + 2)) 0 t.toNat = T)
  ∧ (∀ c : Nat, (c = 9 ∨ c = 10 ∨ c = 12 ∨ c = 13 ∨ c = 14 ∨ c = 17 ∨ c = 181 ∨ 183 ≤ c ∧ c ≤ 187 ∨ 265 ≤ c ∧ c < nx) → Mx c = M c)
section TREEMK
variable {sh sh1 : Nat → Option Shp} {M Mx : FM} {F x kind giv t : Int} {T : List Int} {af nx nx1 zl zl1 : Nat}
theorem live_mk (hB : mkB M Mx F x kind giv t T af nx) {i : Int} (hi : i ≠ x) : live Mx i = live M i := by
  unfold live
  rw [hB.2.1.2.2.2.2.2.2.1, ur_ne hi]
theorem nm_mk (hB : mkB M Mx F x kind giv t T af nx) (i : Int) : nmL Mx i = nmL M i := by
  obtain ⟨-, -, -, -, -, -, b⟩ := hB
  unfold nmL
  rw [b 185 (by omega), b 186 (by omega), b 187 (by omega)]
theorem twR_mk (hT : treeR sh M) (hB : mkB M Mx F x kind giv t T af nx) (hx : x = M 168 5) (hx2 : M 168 5 < 2000) (hk : 1 ≤ kind ∧ kind ≤ 7) (hg : -2147483648 ≤ giv ∧ giv ≤ 2147483647) (ht : 0 ≤ t) (hn3 : kind ≠ 3 → t = 0) (hA : M 168 19 + t ≤ 32768) (hF : okN M F) : twR Mx := by
  have LV := fun {i : Int} => live_mk (i := i) hB
  have NM := nm_mk hB
  obtain ⟨⟨b1, b2, b3, b4, b5⟩, ⟨k171, k172, k173, k174, k175, k176, k177, k178, k179, k180⟩, -, -, -, -, b⟩ := hB
  obtain ⟨⟨w1, w2, w3, w4, w5, w6, w7⟩, -⟩ := hT
  have k183 := b 183 (by omega)
  have k184 := b 184 (by omega)
  have k185 := b 185 (by omega)
  have k186 := b 186 (by omega)
  have hF0 := hF.1
  have hF1 := hF.2.1
  have w11 := w1.1
  have w21 := w2.1
  have w41 := w4.1
  refine ⟨⟨?_, fun i i0 i1 => ?_⟩, ⟨?_, fun i i0 i1 => ?_⟩, fun i j i0 i1 j0 j1 ij e1 e2 => ?_, ⟨?_, fun k k0 k1 => ?_⟩, ?_, ?_, fun i i0 i1 => ?_⟩
  · rw [b1, k171, ur_ne (by omega)]
    omega
  · rw [b1] at i1
    rw [k171, k172, k173, k174, k175, k176, k178]
    by_cases e : i = x
    · rw [e, ur_at, ur_at, ur_at, ur_at, ur_at, ur_at, ur_at]
      refine ⟨hk, fun _ => by omega, ?_, by omega, by omega, by omega, hg⟩
      by_cases e2 : kind = 1
      · rw [if_pos e2]
        omega
      · rw [if_neg e2]
        omega
    · rw [ur_ne e, ur_ne e, ur_ne e, ur_ne e, ur_ne e, ur_ne e, ur_ne e]
      exact w1.2 i i0 (by omega)
  · rw [b2, b3]
    omega
  · rw [b1] at i1
    rw [b2, b3, k171, k179, k180]
    by_cases e : i = x
    · rw [e, ur_at, ur_at, ur_at]
      by_cases e2 : kind = 3
      · rw [if_pos e2]
        refine ⟨by omega, fun z => by omega, fun _ => by omega⟩
      · rw [if_neg e2]
        have := hn3 e2
        refine ⟨by omega, fun _ => by omega, fun z => by omega⟩
    · rw [ur_ne e, ur_ne e, ur_ne e]
      obtain ⟨q1, q2, q3⟩ := w2.2 i i0 (by omega)
      refine ⟨q1, fun z => q2 z, fun z => ?_⟩
      have := q3 z
      omega
  · rw [b1] at i1 j1
    rw [k171] at e1 e2
    rw [k179, k180]
    by_cases e : i = x
    · have ej : j ≠ x := by omega
      rw [e, ur_at] at e1 e2
      rw [ur_ne ej] at e1
      rw [e, ur_at, ur_at, ur_ne ej, ur_ne ej]
      obtain ⟨q1, q2, q3⟩ := w2.2 j j0 (by omega)
      by_cases e3 : kind = 3
      · rw [if_pos e3]
        have := q3 (by omega)
        exact Or.inr (by omega)
      · rw [if_neg e3]
        have := q2 (by omega)
        exact Or.inr (by omega)
    · rw [ur_ne e] at e1 e2
      by_cases ej : j = x
      · rw [ej, ur_at] at e1
        rw [ej, ur_at, ur_at, ur_ne e, ur_ne e]
        obtain ⟨q1, q2, q3⟩ := w2.2 i i0 (by omega)
        by_cases e3 : kind = 3
        · rw [if_pos e3]
          have := q3 (by omega)
          exact Or.inl (by omega)
        · rw [if_neg e3]
          have := q2 (by omega)
          exact Or.inl (by omega)
      · rw [ur_ne ej] at e1
        rw [ur_ne e, ur_ne e, ur_ne ej, ur_ne ej]
        exact w3 i j i0 (by omega) j0 (by omega) ij e1 e2
  · rw [b4, b5]
    exact w41
  · rw [b4] at k1
    obtain ⟨⟨f1, f2, f3, f4⟩, ⟨f5, f6⟩, f7, f8⟩ := w4.2 k k0 k1
    rw [k183, k184, k185, k186, b1, b5, k171, k178, LV (by omega), ur_ne (show M 183 k ≠ x by omega), ur_ne (show M 184 k ≠ x by omega), ur_ne (show M 184 k ≠ x by omega)]
    exact ⟨⟨f1, by omega, f3, f4⟩, ⟨f5, by omega⟩, f7, f8⟩
  · intro k m k0 k1 k2
    rw [b4] at k2
    unfold ltK
    rw [k183, NM, NM]
    exact w5 k m k0 k1 k2
  · intro k m k0 k1 m0 m1 km
    rw [b4] at k1 m1
    rw [k185, k186]
    exact w6 k m k0 k1 m0 m1 km
  · rw [b1] at i1
    rw [b4, k171, k177, k184]
    by_cases e : i = x
    · rw [e, ur_at]
      refine ⟨?_, fun _ => by omega⟩
      have h1 := (cnt_nn (M 184) x (M 168 20).toNat).1
      by_cases h2 : 0 < cnt (M 184) (M 168 20).toNat x
      · obtain ⟨k, k1, k2⟩ := cnt_ex (M 184) x _ h2
        have := (w4.2 k (by omega) (by omega)).2.1
        omega
      · omega
    · rw [ur_ne e, ur_ne e]
      exact w7 i i0 (by omega)
theorem treeX_mk (hT : treeR sh M) (hS : mkS sh sh1 nx nx1 zl zl1 af kind t) (hxx : fxN ≤ nx) (hfr : ∀ c, nx ≤ c → sh c = none) (hB : mkB M Mx F x kind giv t T af nx) (hx : x = M 168 5) (hx2 : M 168 5 < 2000) (hk : 1 ≤ kind ∧ kind ≤ 7) (hg : -2147483648 ≤ giv ∧ giv ≤ 2147483647) (ht : 0 ≤ t ∧ t ≤ 4096) (hn3 : kind ≠ 3 → t = 0) (hA : M 168 19 + t ≤ 32768) (hF : okN M F) (hFk : M 171 F = 1) (hFa : M 11 F = af) (hd : kind = 1 → M af 4 ≠ 100) (hTl : T.length = t.toNat) : treeX sh1 Mx x := by
  have hW2 := twR_mk hT hB hx hx2 hk hg ht.1 hn3 hA hF
  have LV := fun {i : Int} => live_mk (i := i) hB
  have NM := nm_mk hB
  have hB0 := hB
  obtain ⟨⟨b1, b2, b3, b4, b5⟩, ⟨k171, k172, k173, k174, k175, k176, k177, k178, k179, k180⟩, ⟨c182, c183⟩, ⟨d1, d2, d3, d4, k11⟩, hN, h3, b⟩ := hB
  have hT0 := hT
  obtain ⟨⟨w1, w2, w3, w4, w5, w6, w7⟩, c1, c2, c3, c4⟩ := hT
  obtain ⟨s1, s2, s3, s4, s5⟩ := hS
  have k183 := b 183 (by omega)
  have k184 := b 184 (by omega)
  have k9 := b 9 (by omega)
  have k10 := b 10 (by omega)
  have k12 := b 12 (by omega)
  have k13 := b 13 (by omega)
  have k14 := b 14 (by omega)
  have k181 := b 181 (by omega)
  have hF0 := hF.1
  have hF1 := hF.2.1
  have w11 := w1.1
  have nx265 : 265 ≤ nx := hxx
  have LT : ∀ {c : Nat} {s : Shp}, shp sh c = some s → c < nx := by
    intro c s hs
    by_cases e : nx ≤ c
    · unfold shp at hs
      rw [fsh_hi (by omega)] at hs
      rw [show sh c = none from hfr c e] at hs
      cases hs
    · omega
  have SO : ∀ c : Nat, c < nx → shp sh1 c = shp sh c := by
    intro c hc
    unfold shp
    rw [s3 c hc]
  have RK : ∀ {r b0 : Nat} {T0 : List Int}, rowD sh M r b0 T0 → rowD sh1 Mx r b0 T0 := by
    intro r b0 T0 h
    have l1 := LT h.1.1
    have l2 := LT h.1.2
    have g := h.2.1
    exact rowD_keep h (SO _ l1) (SO _ l2) (b r (by omega)) (b b0 (by omega))
  have NX : ∀ {i : Int}, 0 ≤ i → i < x → live M i → ∃ a : Nat, M 11 i = a ∧ Mx a = M a ∧ (M 11 i).toNat = a := by
    intro i i0 i1 hl
    obtain ⟨a, ha, h9, t9, hS9, -⟩ := (c2 i i0 (by omega)).1 hl
    have l1 := LT hS9.1
    have g := hS9.2
    exact ⟨a, ha, b a (by omega), by omega⟩
  have X11 : ∀ {i : Int}, i ≠ x → Mx 11 i = M 11 i := fun {i} hi => by rw [k11, ur_ne hi]
  obtain ⟨aF, haF, hF9, tF9, hSF, hEF, hFF, hLF, hDF⟩ := (c2 F hF0 hF1).1 hF.2.2
  have eF : aF = af := by omega
  rw [eF] at hSF hEF hDF
  have hdF := (hDF.2 hFk).1
  have hdF0 := hDF.1.1
  have afl := LT hSF.1
  have hafM : Mx af = M af := b af (by have := hSF.2; omega)
  refine ⟨hW2, ?_, fun i i0 i1 => ?_, fun k k0 k1 => ?_, fun i j i0 i1 j0 j1 ij hi hj f1 f2 => ?_⟩
  · obtain ⟨q1, q2, q3, q4, q5⟩ := c1
    refine ⟨by omega, by omega, by omega, by omega, ?_⟩
    rw [k9, b2]
    exact q5
  · rw [b1] at i1
    by_cases e : i = x
    · refine ⟨fun _ => ⟨nx, ?_, ?_⟩, fun h => absurd (Or.inr e) h⟩
      · rw [e, k11, ur_at]
      · rw [e]
        have E : ndE Mx x nx := by
          unfold ndE
          rw [k171, k172, k173, k174, k175, k176, k177, k183, b4]
          simp only [ur_at]
          refine ⟨hN 0 (by omega), hN 1 (by omega), hN 2 (by omega), hN 5 (by omega), hN 6 (by omega), hN 7 (by omega), hN 8 (by omega), hN 9 (by omega), (hN 10 (by omega)).trans ?_⟩
          show (0 : Int) = _
          have h1 := (cnt_nn (M 183) x (M 168 20).toNat).1
          by_cases h2 : 0 < cnt (M 183) (M 168 20).toNat x
          · obtain ⟨k, k1, k2⟩ := cnt_ex (M 183) x _ h2
            have := (w4.2 k (by omega) (by omega)).1.2.1
            omega
          · omega
        have n11 : Mx nx 11 = 0 := hN 11 (by omega)
        have n12 : Mx nx 12 = 0 := hN 12 (by omega)
        have n4 : Mx nx 4 = M af 4 + 1 := hN 4 (by omega)
        have Fx : ndF Mx x nx := by
          unfold ndF
          rw [k171, k180, k9, n11, n12]
          simp only [ur_at]
          have q5 : M 9 1 = M 168 17 := c1.2.2.2.2
          have q6 := w2.1
          refine ⟨by omega, fun z => ?_, fun _ => ⟨trivial, trivial⟩⟩
          have e0 := hn3 (by omega)
          rw [e0]
          exact ⟨rfl, rfl⟩
        have Dx : ndD Mx x nx (some af) := by
          unfold ndD
          rw [k171, n4, k178, ur_at, ur_at, X11 (show F ≠ x by omega), hFa]
          refine ⟨by omega, fun z => ⟨?_, fun z2 => by omega, fun _ => ⟨rfl, ?_⟩⟩⟩
          · have := hd z
            omega
          · show _ = Mx ((af : Int)).toNat 4 + 1
            rw [Int.toNat_natCast, hafM]
        by_cases e3 : kind = 3
        · obtain ⟨z1, z2, z3, z4⟩ := s5 e3
          obtain ⟨y1, y2⟩ := h3 e3
          refine ⟨some af, some (nx + 1), ⟨z1, Or.inr nx265⟩, E, Fx, ⟨fun _ => ⟨nx + 1, nx + 2, rfl, ?_⟩, fun z => absurd (by rw [k171, ur_at]; exact e3) z⟩, Dx⟩
          rw [k179, k180, ur_at, ur_at, if_pos e3, c183]
          refine ⟨⟨z2, by rw [hTl]; exact z3⟩, ⟨by omega, by omega, by omega⟩, by omega, ?_, ?_⟩
          · rw [y1]
            omega
          · rw [hTl]
            exact y2
        · refine ⟨some af, none, ⟨s4 e3, Or.inr nx265⟩, E, Fx, ⟨fun z => absurd (by rw [k171, ur_at] at z; exact z) e3, fun _ => rfl⟩, Dx⟩
    · have hl : lvX Mx x i ↔ live M i := by
        unfold lvX
        rw [LV e]
        constructor
        · intro q
          rcases q with q | q
          · exact q
          · exact absurd q e
        · exact Or.inl
      rw [hl, X11 e]
      refine ⟨fun hli => ?_, (c2 i i0 (by omega)).2⟩
      obtain ⟨a, ha, hR⟩ := (c2 i i0 (by omega)).1 hli
      refine ⟨a, ha, ?_⟩
      obtain ⟨h9, t9, hS9, hE9, hF9x, hL9, hD9⟩ := hR
      have l1 := LT hS9.1
      have ka : Mx a = M a := b a (by have := hS9.2; omega)
      have hi180 := (w2.2 i i0 (by omega))
      refine ⟨h9, t9, ⟨(SO a l1).trans hS9.1, hS9.2⟩, ?_, ?_, ?_, ?_⟩
      · unfold ndE
        rw [ka, k171, k172, k173, k174, k175, k176, k177, k183, b4, ur_ne e, ur_ne e, ur_ne e, ur_ne e, ur_ne e, ur_ne e, ur_ne e]
        exact hE9
      · unfold ndF
        rw [ka, k9, k10, k171, k179, k180, k181, ur_ne e, ur_ne e, ur_ne e]
        exact hF9x
      · unfold ndL
        rw [k171, k179, k180, ur_ne e, ur_ne e, ur_ne e]
        refine ⟨fun z => ?_, hL9.2⟩
        obtain ⟨q, b0, e1, e2⟩ := hL9.1 z
        refine ⟨q, b0, e1, ?_⟩
        have e3 : sl (Mx 182) (M 179 i) (M 180 i).toNat = sl (M 182) (M 179 i) (M 180 i).toNat := sl_congr _ _ _ (fun j hj => by
          have := hi180.2.2 z
          have := hi180.1
          rw [c182 _ (by omega) (by omega)])
        rw [e3]
        exact RK e2
      · unfold ndD
        rw [ka, k171, k178, ur_ne e, ur_ne e]
        refine ⟨hD9.1, fun z => ⟨(hD9.2 z).1, (hD9.2 z).2.1, fun hi0 => ?_⟩⟩
        obtain ⟨y1, y2⟩ := (hD9.2 z).2.2 hi0
        have hP := (w1.2 i i0 (by omega)).2.1 hi0
        have hpl : live M (M 178 i) := by
          have hl2 : 0 < M 177 i := by
            rcases hli with q | q
            · omega
            · exact q
          obtain ⟨k, hk, e⟩ := cnt_ex (M 184) i (M 168 20).toNat (by have := (w7 i i0 (by omega)).1; omega)
          obtain ⟨⟨f1, f2, f3, f4⟩, -, -, f5⟩ := w4.2 k (by omega) (by omega)
          rw [e] at f5
          rw [← f5 z]
          exact f3
        obtain ⟨a2, ha2, ha3, ha4⟩ := NX hP.1 (by omega) hpl
        rw [X11 (show M 178 i ≠ x by omega), ha4, ha3]
        rw [ha4] at y1 y2
        exact ⟨y1, y2⟩
  · rw [b4] at k1
    obtain ⟨⟨f1, f2, f3, f4⟩, ⟨f5, f6⟩, f7, f8⟩ := w4.2 k k0 k1
    rw [k12, k13, k14, k183, k184, NM, X11 (show M 183 k ≠ x by omega), X11 (show M 184 k ≠ x by omega)]
    obtain ⟨q1, q2, r, b0, q3, q4⟩ := c3 k k0 k1
    exact ⟨q1, q2, r, b0, q3, RK q4⟩
  · rw [b1] at i1 j1
    rw [k171] at f1 f2
    have n11 : Mx nx 11 = 0 := hN 11 (by omega)
    have n12 : Mx nx 12 = 0 := hN 12 (by omega)
    have NF : ∀ {i : Int}, 0 ≤ i → i < x → live M i → ∃ a : Nat, (M 11 i).toNat = a ∧ Mx a = M a ∧ 0 ≤ M a 11 ∧ 0 ≤ M a 12 := by
      intro i i0 i1 hl
      obtain ⟨a, ha, h9, t9, hS9, hE9, hF9x, -⟩ := (c2 i i0 (by omega)).1 hl
      have l1 := LT hS9.1
      have g := hS9.2
      have g2 := hF9x.1
      exact ⟨a, by omega, b a (by omega), g2.1, g2.2.1⟩
    have lv : ∀ {i : Int}, i ≠ x → lvX Mx x i → live M i := by
      intro i e q
      unfold lvX at q
      rw [LV e] at q
      rcases q with q | q
      · exact q
      · exact absurd q e
    have en : Mx 11 x = nx := by rw [k11, ur_at]
    have en2 : (Mx 11 x).toNat = nx := by rw [en]; exact Int.toNat_natCast nx
    by_cases e : i = x
    · have ej : j ≠ x := by omega
      obtain ⟨a, y1, y2, y3, y4⟩ := NF j0 (by omega) (lv ej hj)
      rw [e, en2, X11 ej, y1, y2, n11, n12]
      exact Or.inl (by omega)
    · by_cases ej : j = x
      · obtain ⟨a, y1, y2, y3, y4⟩ := NF i0 (by omega) (lv e hi)
        rw [ej, en2, X11 e, y1, y2, n11, n12]
        exact Or.inr (by omega)
      · obtain ⟨a, y1, y2, y3, y4⟩ := NF i0 (by omega) (lv e hi)
        obtain ⟨a9, z1, z2, z3, z4⟩ := NF j0 (by omega) (lv ej hj)
        rw [ur_ne e] at f1
        rw [ur_ne ej] at f2
        have q := c4 i j i0 (by omega) j0 (by omega) ij (lv e hi) (lv ej hj) f1 f2
        rw [y1, z1] at q
        rw [X11 e, X11 ej, y1, z1, y2, z2]
        exact q
end TREEMK
