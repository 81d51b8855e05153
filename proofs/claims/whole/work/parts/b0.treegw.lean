/-! THE TREE WITH A FILE GROWN: both hold the same again -/
section TREEGW
variable {sh : Nat → Option Shp} {M M2 : FM} {i n : Int} {T : List Int} {a : Nat}
theorem twR_gw (hW : twR M) (hM : mgX M M2 i n T) : twR M2 := by
  obtain ⟨w1, w2, w3, w4, w5, w6, w7⟩ := hW
  obtain ⟨h1, ⟨e5, e17, e19, e20, e26⟩, -, -, v2, v3⟩ := hM
  have k171 := h1 171 (by omega)
  have k172 := h1 172 (by omega)
  have k173 := h1 173 (by omega)
  have k174 := h1 174 (by omega)
  have k175 := h1 175 (by omega)
  have k176 := h1 176 (by omega)
  have k177 := h1 177 (by omega)
  have k178 := h1 178 (by omega)
  have k183 := h1 183 (by omega)
  have k184 := h1 184 (by omega)
  have k185 := h1 185 (by omega)
  have k186 := h1 186 (by omega)
  have k187 := h1 187 (by omega)
  have LV : ∀ i, live M2 i = live M i := fun i => by unfold live; rw [k177]
  have NM : ∀ i, nmL M2 i = nmL M i := fun i => by unfold nmL; rw [k185, k186, k187]
  refine ⟨?_, v2, v3, ?_, ?_, ?_, ?_⟩
  · unfold twN
    rw [e5, k171, k172, k173, k174, k175, k176, k178]
    exact w1
  · unfold twE
    simp only [e5, e20, e26, k171, k178, k183, k184, k185, k186, LV]
    exact w4
  · unfold twO ltK
    simp only [e20, k183, NM]
    exact w5
  · unfold twS
    rw [e20, k185, k186]
    exact w6
  · unfold twC
    rw [e5, e20, k171, k177, k184]
    exact w7
theorem treeR_gw (hT : treeR sh M) (hi : okN M i) (hk : M 171 i = 2) (hia : M 11 i = a) (hn : 0 ≤ n) (hC : cgX M M2 i a n T) (hM : mgX M M2 i n T) : treeR sh M2 := by
  have hW2 := twR_gw hT.1 hM
  obtain ⟨⟨w1, w2, w3, w4, w5, w6, w7⟩, c1, c2, c3, c4⟩ := hT
  obtain ⟨h1, ⟨e5, e17, e19, e20, e26⟩, mB, ⟨mi1, mi2⟩, -, -⟩ := hM
  obtain ⟨⟨k8, k91, ka⟩, ⟨l1, l2, l3⟩, oC, nC⟩ := hC
  have k171 := h1 171 (by omega)
  have k172 := h1 172 (by omega)
  have k173 := h1 173 (by omega)
  have k174 := h1 174 (by omega)
  have k175 := h1 175 (by omega)
  have k176 := h1 176 (by omega)
  have k177 := h1 177 (by omega)
  have k178 := h1 178 (by omega)
  have k182 := h1 182 (by omega)
  have k183 := h1 183 (by omega)
  have k184 := h1 184 (by omega)
  have k185 := h1 185 (by omega)
  have k186 := h1 186 (by omega)
  have k187 := h1 187 (by omega)
  have q8 := k8 8 (by omega)
  have q11 := k8 11 (by omega)
  have q12 := k8 12 (by omega)
  have q13 := k8 13 (by omega)
  have q14 := k8 14 (by omega)
  have LV : ∀ i, live M2 i = live M i := fun i => by unfold live; rw [k177]
  have NM : ∀ i, nmL M2 i = nmL M i := fun i => by unfold nmL; rw [k185, k186, k187]
  obtain ⟨aI, haI, hI1, hI2, sI, eI, fI, -⟩ := (c2 i hi.1 hi.2.1).1 hi.2.2
  have eA : aI = a := by omega
  rw [eA] at sI eI fI
  obtain ⟨f11, f12, -⟩ := fI
  obtain ⟨g12, g13⟩ := f12 hk
  -- a node's places but 11 and 12
  have NP : ∀ (k : Int) (b : Nat) (j : Int), 0 ≤ k → k < M 168 5 → M 11 k = b → j ≠ 11 → j ≠ 12 → M2 b j = M b j := by
    intro k b j k0 k1 hb hj hj2
    by_cases ki : k = i
    · have e : b = a := by rw [ki] at hb; omega
      rw [e, ka, ur_ne hj2]
    · obtain ⟨n1, n2⟩ := nC k b k0 k1 ki hb
      by_cases q : M b 1 = 2 ∧ M a 11 + M a 12 ≤ M b 11
      · rw [n1 q, ur_ne hj]
      · rw [n2 q]
  have N0 : ∀ (k : Int) (b : Nat), 0 ≤ k → k < M 168 5 → live M k → M 11 k = b → M 171 k ≠ 2 → M2 b = M b := by
    intro k b k0 k1 hk9 hb h2
    obtain ⟨b2, hb2, _, _, _, eB, -⟩ := (c2 k k0 k1).1 hk9
    have e : b2 = b := by omega
    rw [e] at eB
    have e1 := eB.2.1
    exact (nC k b k0 k1 (fun z => h2 (by rw [z]; exact hk)) hb).2 (fun z => by omega)
  have N2 : ∀ (k : Int) (b : Nat), 0 ≤ k → k < M 168 5 → k ≠ i → live M k → M 11 k = b → M 171 k = 2 → M2 b 12 = M b 12 ∧ (M b 11 + M b 12 ≤ M a 11 ∧ M2 b 11 = M b 11 ∨ M a 11 + M a 12 ≤ M b 11 ∧ M2 b 11 = M b 11 + n) := by
    intro k b k0 k1 ki hk9 hb h2
    obtain ⟨b2, hb2, _, _, _, eB, fB, -⟩ := (c2 k k0 k1).1 hk9
    have e : b2 = b := by omega
    rw [e] at eB fB
    have e1 := eB.2.1
    have f1 := fB.1
    obtain ⟨n1, n2⟩ := nC k b k0 k1 ki hb
    by_cases q : M a 11 + M a 12 ≤ M b 11
    · rw [n1 ⟨by omega, q⟩]
      exact ⟨by rw [ur_ne (by omega)], Or.inr ⟨q, by rw [ur_at]⟩⟩
    · rw [n2 (fun z => q z.2)]
      refine ⟨rfl, Or.inl ⟨?_, rfl⟩⟩
      have z := c4 k i k0 k1 hi.1 hi.2.1 ki hk9 hi.2.2 h2 hk
      rw [show (M 11 k).toNat = b by omega, show (M 11 i).toNat = a by omega] at z
      omega
  have RN : ∀ {r b0 : Nat} {T0 : List Int}, rowD sh M r b0 T0 → rowD sh M2 r b0 T0 := by
    intro r b0 T0 h
    have NN : ∀ (c : Nat), (∀ fl, shp sh c ≠ some (.inr (3, fl))) → ∀ k : Int, 0 ≤ k → k < M 168 5 → M 11 k ≠ c := by
      intro c hc k k0 k1 e
      by_cases hk9 : live M k
      · obtain ⟨b2, hb2, _, _, sB, -⟩ := (c2 k k0 k1).1 hk9
        have e2 : b2 = c := by omega
        rw [e2] at sB
        exact hc _ sB.1
      · have := (c2 k k0 k1).2 hk9
        omega
    refine rowD_keep h rfl rfl (oC r h.2.1.1 (NN r (fun fl z => ?_))) (oC b0 h.2.1.2.1 (NN b0 (fun fl z => ?_)))
    · rw [h.1.1] at z
      cases z
    · rw [h.1.2] at z
      cases z
  refine ⟨hW2, ?_, fun k k0 k1 => ?_, fun k k0 k1 => ?_, fun k j k0 k1 j0 j1 kj hk9 hj9 g1 g2 => ?_⟩
  · obtain ⟨y1, y2, y3, y4, y5⟩ := c1
    unfold tcA
    rw [q8, e5, e17, e19, e20, e26, k91]
    exact ⟨y1, y2, y3, y4, by omega⟩
  · rw [e5] at k1
    rw [LV k, q11]
    refine ⟨fun hk9 => ?_, (c2 k k0 k1).2⟩
    obtain ⟨b, hb, h9, t9, hS9, hE9, hF9, hL9, hD9⟩ := (c2 k k0 k1).1 hk9
    have NB := fun j h1 h2 => NP k b j k0 k1 hb h1 h2
    refine ⟨b, hb, h9, t9, hS9, ?_, ?_, ?_, ?_⟩
    · unfold ndE
      rw [k171, k172, k173, k174, k175, k176, k177, k183, e20, NB 0 (by omega) (by omega), NB 1 (by omega) (by omega), NB 2 (by omega) (by omega), NB 5 (by omega) (by omega), NB 6 (by omega) (by omega), NB 7 (by omega) (by omega), NB 8 (by omega) (by omega), NB 9 (by omega) (by omega), NB 10 (by omega) (by omega)]
      exact hE9
    · obtain ⟨f1, f2, f3⟩ := hF9
      unfold ndF
      rw [k171, k91]
      by_cases ki : k = i
      · have e : b = a := by rw [ki] at hb; omega
        rw [e, ka, ur_ne (show (11 : Int) ≠ 12 by omega), ur_at, ki]
        refine ⟨by omega, fun _ => ⟨by rw [mi1]; omega, ?_⟩, fun z => absurd hk z⟩
        rw [mi2, show (M a 12 + n).toNat = (M a 12).toNat + n.toNat by omega, sl_add, ← g13]
        congr 1
        · exact sl_congr _ _ _ (fun j hj => by rw [l1 _ (by omega)])
        · rw [show M a 11 + ((M a 12).toNat : Int) = M a 11 + M a 12 by omega]
          exact l3
      · obtain ⟨mB1, mB2, mB3⟩ := mB k k0 k1 ki
        by_cases q : M 171 k = 2
        · obtain ⟨n1, n2⟩ := N2 k b k0 k1 ki hk9 hb q
          obtain ⟨p1, p2⟩ := f2 q
          rw [n1]
          refine ⟨by omega, fun _ => ⟨by rw [mB1]; exact p1, ?_⟩, fun z => absurd q z⟩
          rw [mB2 q, ← p2]
          rcases n2 with ⟨n2, n3⟩ | ⟨n2, n3⟩
          · rw [n3]
            exact sl_congr _ _ _ (fun j hj => by rw [l1 _ (by omega)])
          · rw [n3]
            refine sl_congr _ _ _ (fun j hj => ?_)
            rw [show M b 11 + n + (j : Int) = M b 11 + j + n by omega, l2 _ (by omega) (by omega)]
        · rw [N0 k b k0 k1 hk9 hb q]
          have f4 := f3 q
          exact ⟨by omega, fun z => absurd z q, fun _ => f4⟩
    · unfold ndL
      rw [k171, k182]
      refine ⟨fun z => ?_, hL9.2⟩
      have ki : k ≠ i := fun e => by rw [e] at z; omega
      obtain ⟨mB1, mB2, mB3⟩ := mB k k0 k1 ki
      obtain ⟨r, b0, y1, y2⟩ := hL9.1 z
      rw [mB1, mB3 z]
      exact ⟨r, b0, y1, RN y2⟩
    · unfold ndD
      rw [NB 4 (by omega) (by omega), k171, k178, q11]
      refine ⟨hD9.1, fun z => ⟨(hD9.2 z).1, (hD9.2 z).2.1, fun hi0 => ?_⟩⟩
      obtain ⟨y1, y2⟩ := (hD9.2 z).2.2 hi0
      have hP := (w1.2 k k0 k1).2.1 hi0
      have hpl : live M (M 178 k) := by
        have hl2 : 0 < M 177 k := by
          rcases hk9 with q | q
          · omega
          · exact q
        obtain ⟨m, hm, e⟩ := cnt_ex (M 184) k (M 168 20).toNat (by have := (w7 k k0 k1).1; omega)
        obtain ⟨⟨v1, v2, v3, v4⟩, -, -, v5⟩ := w4.2 m (by omega) (by omega)
        rw [e] at v5
        rw [← v5 z]
        exact v3
      refine ⟨y1, ?_⟩
      obtain ⟨p2, hp2, _, _, sA, -⟩ := (c2 (M 178 k) hP.1 (by omega)).1 hpl
      have ep2 : (M 11 (M 178 k)).toNat = p2 := by omega
      rw [ep2] at y2 ⊢
      rw [NP (M 178 k) p2 4 hP.1 (by omega) hp2 (by omega) (by omega)]
      exact y2
  · rw [e20] at k1
    obtain ⟨y1, y2, r, b0, y3, y4⟩ := c3 k k0 k1
    rw [k183, k184, NM, q11, q12, q13, q14]
    exact ⟨y1, y2, r, b0, y3, RN y4⟩
  · rw [e5] at k1 j1
    rw [LV] at hk9 hj9
    rw [k171] at g1 g2
    obtain ⟨b, hb, _, _, sB, eB, fB, -⟩ := (c2 k k0 k1).1 hk9
    obtain ⟨b2, hb2, _, _, sB2, eB2, fB2, -⟩ := (c2 j j0 j1).1 hj9
    have q := c4 k j k0 k1 j0 j1 kj hk9 hj9 g1 g2
    have ea : (M 11 k).toNat = b := by omega
    have eb : (M 11 j).toNat = b2 := by omega
    have f1 := fB.1
    have f2 := fB2.1
    rw [q11]
    rw [ea, eb] at q ⊢
    have za : M2 a 11 = M a 11 ∧ M2 a 12 = M a 12 + n := by rw [ka, ur_ne (by omega), ur_at]; exact ⟨rfl, rfl⟩
    by_cases ki : k = i
    · have e : b = a := by rw [ki] at hb; omega
      obtain ⟨n1, n2⟩ := N2 j b2 j0 j1 (by omega) hj9 hb2 g2
      rw [e] at q f1 ⊢
      omega
    · obtain ⟨n1, n2⟩ := N2 k b k0 k1 ki hk9 hb g1
      by_cases ji : j = i
      · have e : b2 = a := by rw [ji] at hb2; omega
        rw [e] at q f2 ⊢
        omega
      · obtain ⟨n3, n4⟩ := N2 j b2 j0 j1 ji hj9 hb2 g2
        omega
end TREEGW
