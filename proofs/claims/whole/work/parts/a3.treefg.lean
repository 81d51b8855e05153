/-! THE TREE WITH A NODE LESS: both hold the same again -/
def fgR (M M2 : FM) (x : Int) (a : Nat) (tl : Int) : Prop :=
  (M2 11 = ur (M 11) x (-1) ∧ M2 8 9 = M 8 9 - tl ∧ (∀ i : Int, i ≠ 9 → M2 8 i = M 8 i) ∧ M2 9 1 = M 9 1 - M a 12)
  ∧ ((∀ i : Int, i < M a 11 → M2 10 i = M 10 i) ∧ ∀ i : Int, M a 11 ≤ i → i + M a 12 < M 9 1 → M2 10 i % 256 = M 10 (i + M a 12) % 256)
  ∧ (∀ c : Nat, (12 ≤ c ∧ c ≤ 14 ∨ 265 ≤ c) → (∀ i : Int, 0 ≤ i → i < M 168 5 → i ≠ x → M 11 i ≠ c) → M2 c = M c)
  ∧ (∀ (i : Int) (b : Nat), 0 ≤ i → i < M 168 5 → i ≠ x → M 11 i = b → (M b 1 = 2 ∧ M a 11 + M a 12 ≤ M b 11 → M2 b = ur (M b) 11 (M b 11 - M a 12)) ∧ (¬ (M b 1 = 2 ∧ M a 11 + M a 12 ≤ M b 11) → M2 b = M b))
section TREEFG
variable {sh : Nat → Option Shp} {M M2 : FM} {x tl : Int} {a : Nat}
theorem twR_fg (hW : twR M) (hM : mfX M M2 x) : twR M2 := by
  obtain ⟨w1, w2, w3, w4, w5, w6, w7⟩ := hW
  obtain ⟨h1, ⟨e5, e20, e26⟩, -, -, v2, v3⟩ := hM
  have k171 := h1 171 (by omega)
  have k172 := h1 172 (by omega)
  have k173 := h1 173 (by omega)
  have k174 := h1 174 (by omega)
  have k175 := h1 175 (by omega)
  have k176 := h1 176 (by omega)
  have k177 := h1 177 (by omega)
  have k178 := h1 178 (by omega)
  have k183 := h1 183 (by omega)
  have k184 := h1 184 (by omega)
  have k185 := h1 185 (by omega)
  have k186 := h1 186 (by omega)
  have k187 := h1 187 (by omega)
  have LV : ∀ i, live M2 i = live M i := fun i => by unfold live; rw [k177]
  have NM : ∀ i, nmL M2 i = nmL M i := fun i => by unfold nmL; rw [k185, k186, k187]
  refine ⟨?_, v2, v3, ?_, ?_, ?_, ?_⟩
  · unfold twN
    rw [e5, k171, k172, k173, k174, k175, k176, k178]
    exact w1
  · unfold twE
    simp only [e5, e20, e26, k171, k178, k183, k184, k185, k186, LV]
    exact w4
  · unfold twO ltK
    simp only [e20, k183, NM]
    exact w5
  · unfold twS
    rw [e20, k185, k186]
    exact w6
  · unfold twC
    rw [e5, e20, k171, k177, k184]
    exact w7
theorem treeR_fg (hT : treeX sh M x) (hl : ¬ live M x) (hx : 0 ≤ x ∧ x < M 168 5) (hxa : M 11 x = a) (ht1 : M 171 x = 3 → tl = M 180 x) (ht2 : M 171 x ≠ 3 → tl = 0) (hC : fgR M M2 x a tl) (hM : mfX M M2 x) : treeR sh M2 := by
  have hW2 := twR_fg hT.1 hM
  obtain ⟨⟨w1, w2, w3, w4, w5, w6, w7⟩, c1, c2, c3, c4⟩ := hT
  obtain ⟨h1, ⟨e5, e20, e26⟩, s17, mB, -, -⟩ := hM
  obtain ⟨⟨k11, k89, k8, k91⟩, ⟨l1, l2⟩, oC, nC⟩ := hC
  have k171 := h1 171 (by omega)
  have k172 := h1 172 (by omega)
  have k173 := h1 173 (by omega)
  have k174 := h1 174 (by omega)
  have k175 := h1 175 (by omega)
  have k176 := h1 176 (by omega)
  have k177 := h1 177 (by omega)
  have k178 := h1 178 (by omega)
  have k183 := h1 183 (by omega)
  have k184 := h1 184 (by omega)
  have k185 := h1 185 (by omega)
  have k186 := h1 186 (by omega)
  have k187 := h1 187 (by omega)
  have LV : ∀ i, live M2 i = live M i := fun i => by unfold live; rw [k177]
  have NM : ∀ i, nmL M2 i = nmL M i := fun i => by unfold nmL; rw [k185, k186, k187]
  have LX : ∀ i : Int, live M i → i ≠ x := fun i h e => hl (by rw [← e]; exact h)
  have ND : ∀ i : Int, 0 ≤ i → i < M 168 5 → live M i → ∃ b : Nat, M 11 i = b ∧ ndR sh M i b := fun i i0 i1 h => (c2 i i0 i1).1 (Or.inl h)
  have NO : ∀ i : Int, 0 ≤ i → i < M 168 5 → i ≠ x → ¬ live M i → M 11 i < 0 := fun i i0 i1 ix h => (c2 i i0 i1).2 (fun z => z.elim h ix)
  obtain ⟨a2, ha2, hX1, hX2, sX, eX, fX, -, -⟩ := (c2 x hx.1 hx.2).1 (Or.inr rfl)
  have eA : a2 = a := by omega
  rw [eA] at sX eX fX
  have f12 : M 171 x ≠ 2 → M a 11 = 0 ∧ M a 12 = 0 := fX.2.2
  have g12 : M 171 x = 2 → M a 12 = M 180 x := fun z => (fX.2.1 z).1
  have a11 := fX.1
  have X11 : ∀ i : Int, i ≠ x → M2 11 i = M 11 i := fun i h => by rw [k11, ur_ne h]
  -- a node's places but 11
  have NP : ∀ (i : Int) (b : Nat) (j : Int), 0 ≤ i → i < M 168 5 → live M i → M 11 i = b → j ≠ 11 → M2 b j = M b j := by
    intro i b j i0 i1 hi hb hj
    obtain ⟨n1, n2⟩ := nC i b i0 i1 (LX i hi) hb
    by_cases q : M b 1 = 2 ∧ M a 11 + M a 12 ≤ M b 11
    · rw [n1 q, ur_ne hj]
    · rw [n2 q]
  -- place 11
  have N0 : ∀ (i : Int) (b : Nat), 0 ≤ i → i < M 168 5 → live M i → M 11 i = b → M 171 i ≠ 2 → M2 b = M b := by
    intro i b i0 i1 hi hb h2
    obtain ⟨b2, hb2, _, _, _, eB, -⟩ := ND i i0 i1 hi
    have e : b2 = b := by omega
    rw [e] at eB
    have e1 := eB.2.1
    exact (nC i b i0 i1 (LX i hi) hb).2 (fun z => by omega)
  have N2 : ∀ (i : Int) (b : Nat), 0 ≤ i → i < M 168 5 → live M i → M 11 i = b → M 171 i = 2 → (M b 11 + M b 12 ≤ M a 11 ∧ M2 b 11 = M b 11 ∨ M a 11 + M a 12 ≤ M b 11 ∧ M2 b 11 = M b 11 - M a 12) := by
    intro i b i0 i1 hi hb h2
    obtain ⟨b2, hb2, _, _, _, eB, fB, -⟩ := ND i i0 i1 hi
    have e : b2 = b := by omega
    rw [e] at eB fB
    have e1 := eB.2.1
    have f1 := fB.1
    obtain ⟨n1, n2⟩ := nC i b i0 i1 (LX i hi) hb
    by_cases q : M a 11 + M a 12 ≤ M b 11
    · refine Or.inr ⟨q, ?_⟩
      rw [n1 ⟨by omega, q⟩, ur_at]
    · refine Or.inl ⟨?_, by rw [n2 (fun z => q z.2)]⟩
      by_cases kx : M 171 x = 2
      · have z := c4 i x i0 i1 hx.1 hx.2 (LX i hi) (Or.inl hi) (Or.inr rfl) h2 kx
        rw [show (M 11 i).toNat = b by omega, show (M 11 x).toNat = a by omega] at z
        omega
      · have := f12 kx
        omega
  have RN : ∀ {r b0 : Nat} {T0 : List Int}, rowD sh M r b0 T0 → rowD sh M2 r b0 T0 := by
    intro r b0 T0 h
    have NN : ∀ (c : Nat), (∀ fl, shp sh c ≠ some (.inr (3, fl))) → ∀ i : Int, 0 ≤ i → i < M 168 5 → i ≠ x → M 11 i ≠ c := by
      intro c hc i i0 i1 ix e
      by_cases hi : live M i
      · obtain ⟨b2, hb2, _, _, sB, -⟩ := ND i i0 i1 hi
        have e2 : b2 = c := by omega
        rw [e2] at sB
        exact hc _ sB.1
      · have := NO i i0 i1 ix hi
        omega
    refine rowD_keep h rfl rfl (oC r (Or.inr h.2.1.1) (NN r (fun fl z => ?_))) (oC b0 (Or.inr h.2.1.2.1) (NN b0 (fun fl z => ?_)))
    · rw [h.1.1] at z
      cases z
    · rw [h.1.2] at z
      cases z
  have C12 : ∀ c : Nat, 12 ≤ c → c ≤ 14 → M2 c = M c := by
    intro c h2 h3
    refine oC c (Or.inl ⟨h2, h3⟩) (fun i i0 i1 ix e => ?_)
    by_cases hi : live M i
    · obtain ⟨b2, hb2, _, _, sB, -⟩ := ND i i0 i1 hi
      have := sB.2
      omega
    · have := NO i i0 i1 ix hi
      omega
  refine ⟨hW2, ?_, fun i i0 i1 => ?_, fun k k0 k1 => ?_, fun i j i0 i1 j0 j1 ij hi hj g1 g2 => ?_⟩
  · obtain ⟨y1, y2, y3, y4, y5⟩ := c1
    obtain ⟨u1, u2, u3, u4⟩ := s17
    refine ⟨by rw [k8 2 (by omega), e5]; exact y1, by rw [k8 7 (by omega), e20]; exact y2, by rw [k8 8 (by omega), e26]; exact y3, ?_, ?_⟩
    · rw [k89, y4]
      by_cases q : M 171 x = 3
      · rw [ht1 q, u3 q]
      · rw [ht2 q, u4 q]
        omega
    · rw [k91, y5]
      by_cases q : M 171 x = 2
      · rw [u1 q, g12 q]
      · rw [u2 q, (f12 q).2]
        omega
  · rw [e5] at i1
    rw [LV i]
    refine ⟨fun hi => ?_, fun hi => ?_⟩
    · obtain ⟨b, hb, h9, t9, hS9, hE9, hF9, hL9, hD9⟩ := ND i i0 i1 hi
      have NB := fun j hj => NP i b j i0 i1 hi hb hj
      obtain ⟨mB1, mB2, mB3⟩ := mB i i0 i1 (LX i hi)
      refine ⟨b, by rw [X11 i (LX i hi)]; exact hb, h9, t9, hS9, ?_, ?_, ?_, ?_⟩
      · unfold ndE
        rw [k171, k172, k173, k174, k175, k176, k177, k183, e20, NB 0 (by omega), NB 1 (by omega), NB 2 (by omega), NB 5 (by omega), NB 6 (by omega), NB 7 (by omega), NB 8 (by omega), NB 9 (by omega), NB 10 (by omega)]
        exact hE9
      · obtain ⟨f1, f2, f3⟩ := hF9
        unfold ndF
        rw [k171, NB 12 (by omega), k91]
        by_cases q : M 171 i = 2
        · have n2 := N2 i b i0 i1 hi hb q
          obtain ⟨p1, p2⟩ := f2 q
          refine ⟨by omega, fun _ => ⟨by rw [mB1]; exact p1, ?_⟩, fun z => absurd q z⟩
          rw [mB2 q, ← p2]
          rcases n2 with ⟨n2, n3⟩ | ⟨n2, n3⟩
          · rw [n3]
            exact sl_congr _ _ _ (fun j hj => by rw [l1 _ (by omega)])
          · rw [n3]
            refine sl_congr _ _ _ (fun j hj => ?_)
            rw [l2 _ (by omega) (by omega)]
            congr 2
            omega
        · rw [N0 i b i0 i1 hi hb q]
          have f4 := f3 q
          exact ⟨by omega, fun z => absurd z q, fun _ => f4⟩
      · unfold ndL
        rw [k171]
        refine ⟨fun z => ?_, hL9.2⟩
        obtain ⟨r, b0, y1, y2⟩ := hL9.1 z
        rw [mB3 z]
        exact ⟨r, b0, y1, RN y2⟩
      · unfold ndD
        rw [NB 4 (by omega), k171, k178]
        refine ⟨hD9.1, fun z => ⟨(hD9.2 z).1, (hD9.2 z).2.1, fun hi0 => ?_⟩⟩
        obtain ⟨y1, y2⟩ := (hD9.2 z).2.2 hi0
        have hP := (w1.2 i i0 i1).2.1 hi0
        have hpl : live M (M 178 i) := by
          have hl2 : 0 < M 177 i := by
            rcases hi with q | q
            · omega
            · exact q
          obtain ⟨k, hk, e⟩ := cnt_ex (M 184) i (M 168 20).toNat (by have := (w7 i i0 i1).1; omega)
          obtain ⟨⟨v1, v2, v3, v4⟩, -, -, v5⟩ := w4.2 k (by omega) (by omega)
          rw [e] at v5
          rw [← v5 z]
          exact v3
        rw [X11 _ (LX _ hpl)]
        refine ⟨y1, ?_⟩
        obtain ⟨p2, hp2, _, _, sA, -⟩ := ND (M 178 i) hP.1 (by omega) hpl
        have ep2 : (M 11 (M 178 i)).toNat = p2 := by omega
        rw [ep2] at y2 ⊢
        rw [NP (M 178 i) p2 4 hP.1 (by omega) hpl hp2 (by omega)]
        exact y2
    · by_cases ix : i = x
      · rw [ix, k11, ur_at]
        omega
      · rw [X11 i ix]
        exact NO i i0 i1 ix hi
  · rw [e20] at k1
    obtain ⟨y1, y2, r, b0, y3, y4⟩ := c3 k k0 k1
    obtain ⟨⟨v1, v2, v3, v4⟩, ⟨v5, v6⟩, -⟩ := w4.2 k k0 k1
    have l184 : live M (M 184 k) := by
      have hc := (w7 (M 184 k) (by omega) v6).1
      have q := cnt_pos (M 184) (M 184 k) (M 168 20).toNat k.toNat (by omega) (by rw [show ((k.toNat : Nat) : Int) = k by omega])
      exact Or.inr (by omega)
    rw [k183, k184, NM, C12 12 (by omega) (by omega), C12 13 (by omega) (by omega), C12 14 (by omega) (by omega), X11 _ (LX _ v3), X11 _ (LX _ l184)]
    exact ⟨y1, y2, r, b0, y3, RN y4⟩
  · rw [e5] at i1 j1
    rw [LV] at hi hj
    rw [k171] at g1 g2
    obtain ⟨b, hb, _, _, sB, eB, fB, -⟩ := ND i i0 i1 hi
    obtain ⟨b2, hb2, _, _, sB2, eB2, fB2, -⟩ := ND j j0 j1 hj
    have q := c4 i j i0 i1 j0 j1 ij (Or.inl hi) (Or.inl hj) g1 g2
    have n1 := N2 i b i0 i1 hi hb g1
    have n2 := N2 j b2 j0 j1 hj hb2 g2
    have m1 := NP i b 12 i0 i1 hi hb (by omega)
    have m2 := NP j b2 12 j0 j1 hj hb2 (by omega)
    have ea : (M 11 i).toNat = b := by omega
    have eb : (M 11 j).toNat = b2 := by omega
    have f1 := fB.1
    have f2 := fB2.1
    rw [X11 i (LX i hi), X11 j (LX j hj)]
    rw [ea, eb] at q ⊢
    rw [m1, m2]
    clear f12 g12 ht1 ht2 hl
    omega
end TREEFG
