/-! CALLS of both: own -/
/-- a directory's parent lives -/
theorem par_live {M : FM} (hW : twR M) {i : Int} (h0 : 0 < i) (h1 : i < M 168 5) (hl : live M i) (hk : M 171 i = 1) : live M (M 178 i) ∧ (0 ≤ M 178 i ∧ M 178 i < i) ∧ M 171 (M 178 i) = 1 := by
  have hl2 : 0 < M 177 i := by
    rcases hl with q | q
    · omega
    · exact q
  obtain ⟨k, hk2, e⟩ := cnt_ex (M 184) i (M 168 20).toNat (by have := (hW.2.2.2.2.2.2 i (by omega) h1).1; omega)
  obtain ⟨⟨f1, f2, f3, f4⟩, -, -, f5⟩ := hW.2.2.2.1.2 k (by omega) (by omega)
  rw [e] at f5
  have f6 := f5 hk
  rw [← f6]
  have := (hW.1.2 i (by omega) h1).2.1 h0
  exact ⟨f3, by omega, f4⟩
section OWN
variable {V : FM → Prop} {L d : Nat} {xs : Nat → Int32}
theorem treeR_own {sh : Nat → Option Shp} {M M2 : FM} {i m o g t : Int} {a : Nat} (hT : treeR sh M) (h0 : 0 ≤ i) (h1 : i < M 168 5) (hl : live M i) (ha : M 11 i = a) (hm : 0 ≤ m ∧ m ≤ 4095) (ho : -2147483648 ≤ o ∧ o ≤ 2147483647) (hg : -2147483648 ≤ g ∧ g ≤ 2147483647) (ht : -2147483648 ≤ t ∧ t ≤ 2147483647) (u1 : M2 a = ur (ur (ur (ur (M a) 5 m) 6 o) 7 g) 8 t) (u2 : M2 172 = ur (M 172) i m) (u3 : M2 173 = ur (M 173) i o) (u4 : M2 174 = ur (M 174) i g) (u5 : M2 175 = ur (M 175) i t) (uo : ∀ c : Nat, (8 ≤ c ∧ c ≤ 14 ∨ c = 17 ∨ 168 ≤ c ∧ c ≤ 187 ∨ 265 ≤ c) → c ≠ a → c ≠ 172 → c ≠ 173 → c ≠ 174 → c ≠ 175 → M2 c = M c) : treeR sh M2 := by
  obtain ⟨⟨w1, w2, w3, w4, w5, w6, w7⟩, c1, c2, c3, c4⟩ := hT
  have hW : twR M := ⟨w1, w2, w3, w4, w5, w6, w7⟩
  obtain ⟨a', ha', hh, tt, hS, hE, -⟩ := (c2 i h0 h1).1 hl
  have ea : a' = a := by omega
  rw [ea] at hS hE
  have s17 := hS.2
  have U : ∀ c : Nat, (8 ≤ c ∧ c ≤ 14 ∨ 168 ≤ c ∧ c ≤ 171 ∨ 176 ≤ c ∧ c ≤ 187) → M2 c = M c := fun c hc => uo c (by omega) (by omega) (by omega) (by omega) (by omega) (by omega)
  have k168 := U 168 (by omega)
  have k171 := U 171 (by omega)
  have k176 := U 176 (by omega)
  have k177 := U 177 (by omega)
  have k178 := U 178 (by omega)
  have k179 := U 179 (by omega)
  have k180 := U 180 (by omega)
  have k181 := U 181 (by omega)
  have k182 := U 182 (by omega)
  have k183 := U 183 (by omega)
  have k184 := U 184 (by omega)
  have k185 := U 185 (by omega)
  have k186 := U 186 (by omega)
  have k187 := U 187 (by omega)
  have q8 := U 8 (by omega)
  have q9 := U 9 (by omega)
  have q10 := U 10 (by omega)
  have q11 := U 11 (by omega)
  have q12 := U 12 (by omega)
  have q13 := U 13 (by omega)
  have q14 := U 14 (by omega)
  have LV : ∀ i, live M2 i = live M i := fun i => by unfold live; rw [k177]
  have NM : ∀ i, nmL M2 i = nmL M i := fun i => by unfold nmL; rw [k185, k186, k187]
  -- the cell of another node, and the places that stay
  have CA : ∀ (j : Int) (b : Nat), 0 ≤ j → j < M 168 5 → ndR sh M j b → (∀ y : Int, y ≠ 5 → y ≠ 6 → y ≠ 7 → y ≠ 8 → M2 b y = M b y) ∧ (j ≠ i → M2 b = M b) := by
    intro j b j0 j1 hR
    obtain ⟨_, _, sb, eb, -⟩ := hR
    by_cases e : b = a
    · subst e
      refine ⟨fun y y1 y2 y3 y4 => ?_, fun q => absurd (eb.1.symm.trans hE.1) q⟩
      rw [u1, ur_ne y4, ur_ne y3, ur_ne y2, ur_ne y1]
    · have z : M2 b = M b := uo b (by have := sb.2; omega) e (by have := sb.2; omega) (by have := sb.2; omega) (by have := sb.2; omega) (by have := sb.2; omega)
      exact ⟨fun y _ _ _ _ => by rw [z], fun _ => z⟩
  have RD : ∀ (q b : Nat) (T : List Int), rowD sh M q b T → rowD sh M2 q b T := by
    intro q b T h
    have d1 : q ≠ a := by
      intro e
      rw [e] at h
      have := h.1.1.symm.trans hS.1
      cases this
    have d2 : b ≠ a := by
      intro e
      rw [e] at h
      have := h.1.2.symm.trans hS.1
      cases this
    have b1 := h.2.1.1
    have b2 := h.2.1.2.1
    exact rowD_keep h rfl rfl (uo q (by omega) d1 (by omega) (by omega) (by omega) (by omega)) (uo b (by omega) d2 (by omega) (by omega) (by omega) (by omega))
  refine ⟨⟨?_, ?_, ?_, ?_, ?_, ?_, ?_⟩, ?_, ?_, ?_, ?_⟩
  · refine ⟨?_, ?_⟩
    · rw [k168, k171]
      exact w1.1
    · intro j j0 j1
      rw [k168] at j1
      obtain ⟨v1, v2, v3, v4, v5, v6, v7⟩ := w1.2 j j0 j1
      rw [k171, k178, u2, u3, u4, u5, k176]
      by_cases e : j = i
      · subst e
        rw [ur_at, ur_at, ur_at, ur_at]
        exact ⟨v1, v2, hm, ho, hg, ht, v7⟩
      · rw [ur_ne e, ur_ne e, ur_ne e, ur_ne e]
        exact ⟨v1, v2, v3, v4, v5, v6, v7⟩
  · unfold twB
    rw [k168, k171, k179, k180]
    exact w2
  · unfold twD
    rw [k168, k171, k179, k180]
    exact w3
  · unfold twE
    simp only [k168, k171, k178, k183, k184, k185, k186, LV]
    exact w4
  · unfold twO ltK
    simp only [k168, k183, NM]
    exact w5
  · unfold twS
    rw [k168, k185, k186]
    exact w6
  · unfold twC
    rw [k168, k171, k177, k184]
    exact w7
  · unfold tcA
    rw [q8, q9, k168]
    exact c1
  · intro j j0 j1
    rw [k168] at j1
    rw [LV, q11]
    refine ⟨fun hlj => ?_, (c2 j j0 j1).2⟩
    obtain ⟨b, hb, hR⟩ := (c2 j j0 j1).1 hlj
    refine ⟨b, hb, ?_⟩
    obtain ⟨f1, f2⟩ := CA j b j0 j1 hR
    obtain ⟨h9, t9, hSj, hEj, hFj, hLj, hDj⟩ := hR
    refine ⟨h9, t9, hSj, ?_, ?_, ?_, ?_⟩
    · obtain ⟨e0, e1, e2, e5, e6, e7, e8, e9, e10⟩ := hEj
      unfold ndE
      rw [k168, k171, k176, k177, k183, f1 0 (by omega) (by omega) (by omega) (by omega), f1 1 (by omega) (by omega) (by omega) (by omega), f1 2 (by omega) (by omega) (by omega) (by omega), f1 9 (by omega) (by omega) (by omega) (by omega), f1 10 (by omega) (by omega) (by omega) (by omega)]
      refine ⟨e0, e1, e2, ?_, ?_, ?_, ?_, e9, e10⟩
      all_goals
        by_cases e : j = i
        · have eb : b = a := by rw [e] at hb; omega
          rw [eb, u1, e]
          first | rw [u2] | rw [u3] | rw [u4] | rw [u5]
          simp [ur]
        · rw [f2 e]
          first | (rw [u2, ur_ne e]; exact e5) | (rw [u3, ur_ne e]; exact e6) | (rw [u4, ur_ne e]; exact e7) | (rw [u5, ur_ne e]; exact e8)
    · unfold ndF
      rw [q9, q10, k171, k179, k180, k181, f1 11 (by omega) (by omega) (by omega) (by omega), f1 12 (by omega) (by omega) (by omega) (by omega)]
      exact hFj
    · unfold ndL
      rw [k171, k179, k180, k182]
      refine ⟨fun h3 => ?_, hLj.2⟩
      obtain ⟨q, r, e1, e2⟩ := hLj.1 h3
      exact ⟨q, r, e1, RD q r _ e2⟩
    · unfold ndD
      rw [k171, q11, k178, f1 4 (by omega) (by omega) (by omega) (by omega)]
      refine ⟨hDj.1, fun h3 => ⟨(hDj.2 h3).1, (hDj.2 h3).2.1, fun hj => ?_⟩⟩
      obtain ⟨d1, d2⟩ := (hDj.2 h3).2.2 hj
      refine ⟨d1, ?_⟩
      obtain ⟨p1, p2, p3⟩ := par_live hW hj j1 hlj h3
      obtain ⟨a2, ha2, hR2⟩ := (c2 (M 178 j) p2.1 (by omega)).1 p1
      have ea2 : (M 11 (M 178 j)).toNat = a2 := by omega
      rw [ea2] at d2 ⊢
      rw [(CA _ a2 p2.1 (by omega) hR2).1 4 (by omega) (by omega) (by omega) (by omega)]
      exact d2
  · intro k k0 k1
    rw [k168] at k1
    rw [q11, q12, q13, q14, k183, k184, NM]
    obtain ⟨d1, d2, r, b, d3, d4⟩ := c3 k k0 k1
    exact ⟨d1, d2, r, b, d3, RD r b _ d4⟩
  · intro j y j0 j1 y0 y1 jy hj hy f1 f2
    rw [k168] at j1 y1
    rw [LV] at hj hy
    rw [k171] at f1 f2
    obtain ⟨b, hb, hR⟩ := (c2 j j0 j1).1 hj
    obtain ⟨b2, hb2, hR2⟩ := (c2 y y0 y1).1 hy
    have q := c4 j y j0 j1 y0 y1 jy hj hy f1 f2
    have eb : (M 11 j).toNat = b := by omega
    have eb2 : (M 11 y).toNat = b2 := by omega
    rw [q11]
    rw [eb, eb2] at q ⊢
    obtain ⟨g1, -⟩ := CA j b j0 j1 hR
    obtain ⟨g2, -⟩ := CA y b2 y0 y1 hR2
    rw [g1 11 (by omega) (by omega) (by omega) (by omega), g1 12 (by omega) (by omega) (by omega) (by omega), g2 11 (by omega) (by omega) (by omega) (by omega), g2 12 (by omega) (by omega) (by omega) (by omega)]
    exact q
theorem call_own (hV : keepsV V) {i m o g t : Int} (hi : -2147483648 ≤ i ∧ i ≤ 2147483647) (hm : -2147483648 ≤ m ∧ m ≤ 2147483647) (ho : -2147483648 ≤ o ∧ o ≤ 2147483647) (hg : -2147483648 ≤ g ∧ g ≤ 2147483647) (ht : -2147483648 ≤ t ∧ t ≤ 2147483647) : ca_I V L xs (d + 2) 51 261 [.int (Int32.ofInt i), .int (Int32.ofInt m), .int (Int32.ofInt o), .int (Int32.ofInt g), .int (Int32.ofInt t)] := by
  intro k H hR
  obtain ⟨sh, M, nx, zl⟩ := H
  have hR0 := hR
  obtain ⟨hBase, htp, hot, hT, hv⟩ := hR
  dsimp only at htp hot hT hv
  have BAD : ¬ (okN M i ∧ 0 ≤ m ∧ m ≤ 4095) → (∃ x : Int, (some (ti (-1)) : Option TV) = some (ti x) ∧ (sh 0 = sh 0 ∧ M 0 = M 0) ∧ fm_Y (d + 2) 261 [.ref 168, .int (Int32.ofInt i), .int (Int32.ofInt m), .int (Int32.ofInt o), .int (Int32.ofInt g), .int (Int32.ofInt t)] (sh, M, nx, zl) (fun w2 H2 => w2 = some (ti x) ∧ RR V L xs (k + 1) H2)) := by
    intro hb
    refine ⟨-1, rfl, ⟨rfl, rfl⟩, ?_⟩
    have E : (some (ti (-1)) : Option TV) = some (ti (-1)) ∧ RR V L xs (k + 1) (sh, M, nx, zl) := ⟨rfl, baseR_up hBase rfl, htp, hot, hT, hv⟩
    refine m261 [fx 168, ti i, ti m, ti o, ti g, ti t] ?_
    refine misNode_Y hT.1 hi (fun q1 q2 q3 => ?_) (fun q => ?_)
    · refine ⟨by omega, fun z => by omega, fun _ => ?_⟩
      refine ⟨by omega, fun _ => E, fun w => ?_⟩
      exact ⟨by omega, fun w2 => absurd ⟨⟨q1, q2, q3⟩, w, w2⟩ hb, fun _ => E⟩
    · exact ⟨by omega, fun _ => E, fun z => by omega⟩
  refine m51 [fx 3, ti i, ti m, ti o, ti g, ti t] ?_
  refine node_Y hT hi (fun a q1 q2 q3 q4 q5 => ?_) (fun q => ?_)
  · refine ⟨by omega, fun w => BAD (fun z => by omega), fun w => ?_⟩
    refine ⟨by omega, fun w2 => ?_, fun w2 => BAD (fun z => by omega)⟩
    obtain ⟨hh, tt, hS, hE, -⟩ := id q5
    have a3 : 3 ≤ a := by have := hS.2; omega
    have s17 := hS.2
    refine ⟨_, ⟨a3, hS.1, rfl⟩, ?_⟩
    refine ⟨_, ⟨a3, hS.1, rfl⟩, ?_⟩
    refine ⟨_, ⟨a3, hS.1, rfl⟩, ?_⟩
    refine ⟨_, ⟨a3, hS.1, rfl⟩, ?_⟩
    show ∃ x : Int, (some (ti 0) : Option TV) = some (ti x) ∧ (_ ∧ um _ a _ 0 = _) ∧ fm_Y _ _ _ (_, um _ a _, _) _
    simp only [um_um, um_at]
    generalize hM1 : um M a (ur (ur (ur (ur (M a) 5 m) 6 o) 7 g) 8 t) = M1
    have u1 : M1 a = ur (ur (ur (ur (M a) 5 m) 6 o) 7 g) 8 t := by rw [← hM1, um_at]
    have uo : ∀ c : Nat, c ≠ a → M1 c = M c := fun c hc => by rw [← hM1, um_ne hc]
    have E1 : ∀ c : Nat, 168 ≤ c → c ≤ 187 → M1 c = M c := fun c c1 c2 => uo c (by omega)
    obtain ⟨m1, m2, m3, m4⟩ := mod_same E1
    have e168 := E1 168 (by omega) (by omega)
    refine ⟨0, rfl, ⟨trivial, uo 0 (by omega)⟩, ?_⟩
    refine m261 [fx 168, ti i, ti m, ti o, ti g, ti t] ?_
    refine misNode_Y (m4 hT.1) hi (fun p1 p2 p3 => ?_) (fun p => ?_)
    · refine ⟨by omega, fun z => by omega, fun _ => ?_⟩
      refine ⟨by omega, fun z => by omega, fun _ => ?_⟩
      refine ⟨by omega, fun _ => ?_, fun z => by omega⟩
      have i2000 : i < 2000 := by have := hT.1.1.1; omega
      refine ⟨by omega, ?_⟩
      refine ⟨by omega, ?_⟩
      refine ⟨by omega, ?_⟩
      refine ⟨by omega, ?_⟩
      refine ⟨rfl, ?_⟩
      generalize hM2 : um (um (um (um M1 172 (ur (M1 172) i m)) 173 (ur (um M1 172 (ur (M1 172) i m) 173) i o)) 174 (ur (um (um M1 172 (ur (M1 172) i m)) 173 (ur (um M1 172 (ur (M1 172) i m) 173) i o) 174) i g)) 175 (ur (um (um (um M1 172 (ur (M1 172) i m)) 173 (ur (um M1 172 (ur (M1 172) i m) 173) i o)) 174 (ur (um (um M1 172 (ur (M1 172) i m)) 173 (ur (um M1 172 (ur (M1 172) i m) 173) i o) 174) i g) 175) i t) = M2
      have v2 : M2 172 = ur (M 172) i m := by
        rw [← hM2]
        show ur (M1 172) i m = _
        rw [E1 172 (by omega) (by omega)]
      have v3 : M2 173 = ur (M 173) i o := by
        rw [← hM2]
        show ur (M1 173) i o = _
        rw [E1 173 (by omega) (by omega)]
      have v4 : M2 174 = ur (M 174) i g := by
        rw [← hM2]
        show ur (M1 174) i g = _
        rw [E1 174 (by omega) (by omega)]
      have v5 : M2 175 = ur (M 175) i t := by
        rw [← hM2]
        show ur (M1 175) i t = _
        rw [E1 175 (by omega) (by omega)]
      have vo : ∀ c : Nat, c ≠ 172 → c ≠ 173 → c ≠ 174 → c ≠ 175 → M2 c = M1 c := fun c c1 c2 c3 c4 => by rw [← hM2, um_ne c4, um_ne c3, um_ne c2, um_ne c1]
      have CC : ∀ c : Nat, c ≠ a → c ≠ 172 → c ≠ 173 → c ≠ 174 → c ≠ 175 → M2 c = M c := fun c c0 c1 c2 c3 c4 => (vo c c1 c2 c3 c4).trans (uo c c0)
      have T2 : treeR sh M2 := treeR_own hT q1 q2 q3 q4 ⟨w, w2⟩ ho hg ht (by rw [vo a (by omega) (by omega) (by omega) (by omega)]; exact u1) v2 v3 v4 v5 (fun c hc c0 c1 c2 c3 c4 => CC c c0 c1 c2 c3 c4)
      have C : ∀ c : Nat, c < 172 → c ≠ 17 → M2 c = M c := fun c c1 c2 => CC c (by omega) (by omega) (by omega) (by omega) (by omega)
      refine ⟨baseR_up hBase (C 0 (by omega) (by omega)), ?_, ?_, T2, ?_⟩
      · show tapeR M2
        unfold tapeR
        rw [C 168 (by omega) (by omega), C 4 (by omega) (by omega), C 5 (by omega) (by omega), C 169 (by omega) (by omega), C 3 (by omega) (by omega)]
        exact htp
      · show outR M2
        unfold outR
        rw [C 168 (by omega) (by omega), C 6 (by omega) (by omega), C 7 (by omega) (by omega), C 170 (by omega) (by omega)]
        exact hot
      · exact hV M M2 hv ⟨fun c hc => CC c (by omega) (by omega) (by omega) (by omega) (by omega), fun y hy => by rw [C 168 (by omega) (by omega)], by rw [C 3 (by omega) (by omega)], by rw [C 3 (by omega) (by omega)]⟩
    · exact absurd ⟨q1, by rw [e168]; exact q2, by unfold live; rw [E1 177 (by omega) (by omega)]; exact q3⟩ p
  · exact BAD (fun z => q z.1)
end OWN
