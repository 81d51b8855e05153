/-! THE RELATION between both objects' cells; the shortest calls -/
/-- the script's cell; rows that stay; room -/
def baseR (L : Nat) (xs : Nat → Int32) (k : Nat) (H : FH) : Prop := (H.1 0 = some (.inl (.int, L)) ∧ ∀ j : Nat, Int32.ofInt (H.2.1 0 j) = xs j) ∧ (fxN ≤ H.2.2.1 ∧ H.2.2.1 ≤ 265 + 5 * k ∧ H.2.2.2 ≤ 2656208 + 5000 * k) ∧ (∀ c, H.2.2.1 ≤ c → H.1 c = none)
def tapeR (M : FM) : Prop := (0 ≤ M 168 1 ∧ M 168 1 ≤ 16384) ∧ M 4 1 = M 168 1 ∧ sl (M 5) 0 (M 168 1).toNat = sl (M 169) 0 (M 168 1).toNat ∧ M 3 5 % 2 = M 168 2 % 2 ∧ (M 168 2 % 2 ≠ 0 → 20 ≤ M 168 1)
def outR (M : FM) : Prop := (0 ≤ M 168 4 ∧ M 168 4 ≤ 16384) ∧ M 6 1 = M 168 4 ∧ sl (M 7) 0 (M 168 4).toNat = sl (M 170) 0 (M 168 4).toNat
/-- nothing of the image and what is mounted has changed -/
def sameV (M M2 : FM) : Prop := (∀ c : Nat, (97 ≤ c ∧ c ≤ 167 ∨ 188 ≤ c ∧ c ≤ 264 ∨ c = 1 ∨ c = 2 ∨ 50 ≤ c ∧ c ≤ 63) → M2 c = M c) ∧ (∀ i : Int, 27 ≤ i → M2 168 i = M 168 i) ∧ M2 3 6 = M 3 6 ∧ M2 3 7 = M 3 7
/-- what holds of image and mounting: to be said elsewhere -/
def keepsV (V : FM → Prop) : Prop := ∀ M M2, V M → sameV M M2 → V M2
def RR (V : FM → Prop) (L : Nat) (xs : Nat → Int32) (k : Nat) (H : FH) : Prop := baseR L xs k H ∧ tapeR H.2.1 ∧ outR H.2.1 ∧ treeR H.1 H.2.1 ∧ V H.2.1
/-- a call of both: the same answer, and the relation again -/
def ca_I (V : FM → Prop) (L : Nat) (xs : Nat → Int32) (d jc jm : Nat) (as : List Value) : Prop := ∀ k H, RR V L xs k H → fm_Y d jc (.ref 3 :: as) H (fun w H1 => ∃ x : Int, w = some (ti x) ∧ (H1.1 0 = H.1 0 ∧ H1.2.1 0 = H.2.1 0) ∧ fm_Y d jm (.ref 168 :: as) H1 (fun w2 H2 => w2 = some (ti x) ∧ RR V L xs (k + 1) H2))
def ca_J (V : FM → Prop) (L : Nat) (xs : Nat → Int32) (d jc jm : Nat) (as : List Value) : Prop := ∀ k H, RR V L xs k H → fm_Y d jc (.ref 3 :: as) H (fun w H1 => ∃ x : Int, w = some (tj x) ∧ (H1.1 0 = H.1 0 ∧ H1.2.1 0 = H.2.1 0) ∧ fm_Y d jm (.ref 168 :: as) H1 (fun w2 H2 => w2 = some (tj x) ∧ RR V L xs (k + 1) H2))
theorem baseR_up {L : Nat} {xs : Nat → Int32} {k nx zl : Nat} {sh : Nat → Option Shp} {M M2 : FM} (h : baseR L xs k (sh, M, nx, zl)) (h0 : M2 0 = M 0) : baseR L xs (k + 1) (sh, M2, nx, zl) := by
  obtain ⟨⟨a1, a2⟩, ⟨a3, a4, a5⟩, a6⟩ := h
  refine ⟨⟨a1, ?_⟩, ⟨a3, ?_, ?_⟩, a6⟩
  · show ∀ j : Nat, Int32.ofInt (M2 0 j) = xs j
    rw [h0]
    exact a2
  · show nx ≤ 265 + 5 * (k + 1)
    have a7 : nx ≤ 265 + 5 * k := a4
    omega
  · show zl ≤ 2656208 + 5000 * (k + 1)
    have a7 : zl ≤ 2656208 + 5000 * k := a5
    omega
/-- the tree hangs on its own cells alone -/
theorem cnt_same {f g : Int → Int} (h : g = f) (n : Nat) (v : Int) : cnt g n v = cnt f n v := by rw [h]
theorem treeR_same {sh : Nat → Option Shp} {M M2 : FM} (h : treeR sh M) (h1 : ∀ c : Nat, (8 ≤ c ∧ c ≤ 14 ∨ c = 17 ∨ 171 ≤ c ∧ c ≤ 187 ∨ 265 ≤ c) → M2 c = M c) (h2 : ∀ i : Int, 5 ≤ i → i ≤ 26 → M2 168 i = M 168 i) : treeR sh M2 := by
  have e5 := h2 5 (by omega) (by omega)
  have e17 := h2 17 (by omega) (by omega)
  have e19 := h2 19 (by omega) (by omega)
  have e20 := h2 20 (by omega) (by omega)
  have e26 := h2 26 (by omega) (by omega)
  have q8 := h1 8 (by omega)
  have q9 := h1 9 (by omega)
  have q10 := h1 10 (by omega)
  have q11 := h1 11 (by omega)
  have q12 := h1 12 (by omega)
  have q13 := h1 13 (by omega)
  have q14 := h1 14 (by omega)
  have k171 := h1 171 (by omega)
  have k172 := h1 172 (by omega)
  have k173 := h1 173 (by omega)
  have k174 := h1 174 (by omega)
  have k175 := h1 175 (by omega)
  have k176 := h1 176 (by omega)
  have k177 := h1 177 (by omega)
  have k178 := h1 178 (by omega)
  have k179 := h1 179 (by omega)
  have k180 := h1 180 (by omega)
  have k181 := h1 181 (by omega)
  have k182 := h1 182 (by omega)
  have k183 := h1 183 (by omega)
  have k184 := h1 184 (by omega)
  have k185 := h1 185 (by omega)
  have k186 := h1 186 (by omega)
  have k187 := h1 187 (by omega)
  have LV : ∀ i, live M2 i = live M i := fun i => by unfold live; rw [k177]
  have NM : ∀ i, nmL M2 i = nmL M i := fun i => by unfold nmL; rw [k185, k186, k187]
  obtain ⟨⟨w1, w2, w3, w4, w5, w6, w7⟩, c1, c2, c3, c4⟩ := h
  refine ⟨⟨?_, ?_, ?_, ?_, ?_, ?_, ?_⟩, ?_, ?_, ?_, ?_⟩
  · unfold twN
    rw [e5, k171, k172, k173, k174, k175, k176, k178]
    exact w1
  · unfold twB
    rw [e5, e17, e19, k171, k179, k180]
    exact w2
  · unfold twD
    rw [e5, k171, k179, k180]
    exact w3
  · unfold twE
    simp only [e5, e20, e26, k171, k178, k183, k184, k185, k186, LV]
    exact w4
  · unfold twO ltK
    simp only [e20, k183, NM]
    exact w5
  · unfold twS
    rw [e20, k185, k186]
    exact w6
  · unfold twC
    rw [e5, e20, k171, k177, k184]
    exact w7
  · unfold tcA
    rw [q8, q9, e5, e17, e19, e20, e26]
    exact c1
  · intro i i0 i1
    rw [e5] at i1
    rw [LV, q11]
    refine ⟨fun hl => ?_, (c2 i i0 i1).2⟩
    obtain ⟨a, ha, hR⟩ := (c2 i i0 i1).1 hl
    refine ⟨a, ha, ?_⟩
    obtain ⟨h9, t9, hS, hE, hF, hL, hD⟩ := hR
    have ka : M2 a = M a := h1 a (by rcases hS.2 with q | q <;> omega)
    refine ⟨h9, t9, hS, ?_, ?_, ?_, ?_⟩
    · unfold ndE
      rw [ka, e20, k171, k172, k173, k174, k175, k176, k177, k183]
      exact hE
    · unfold ndF
      rw [ka, q9, q10, k171, k179, k180, k181]
      exact hF
    · unfold ndL
      rw [k171, k179, k180, k182]
      refine ⟨fun h3 => ?_, hL.2⟩
      obtain ⟨q, b, e1, e2⟩ := hL.1 h3
      exact ⟨q, b, e1, rowD_keep e2 rfl rfl (h1 q (Or.inr (Or.inr (Or.inr e2.2.1.1)))) (h1 b (Or.inr (Or.inr (Or.inr e2.2.1.2.1))))⟩
    · unfold ndD
      rw [ka, k171, q11, k178]
      refine ⟨hD.1, fun h3 => ⟨(hD.2 h3).1, (hD.2 h3).2.1, fun hi => ?_⟩⟩
      obtain ⟨d1, d2⟩ := (hD.2 h3).2.2 hi
      refine ⟨d1, ?_⟩
      have hpl : live M (M 178 i) := by
        have hl2 : 0 < M 177 i := by
          rcases hl with q | q
          · omega
          · exact q
        obtain ⟨k, hk, e⟩ := cnt_ex (M 184) i (M 168 20).toNat (by have := (w7 i i0 i1).1; omega)
        obtain ⟨⟨f1, f2, f3, f4⟩, -, -, f5⟩ := w4.2 k (by omega) (by omega)
        rw [e] at f5
        rw [← f5 h3]
        exact f3
      have hP := (w1.2 i i0 i1).2.1 hi
      obtain ⟨a2, ha2, h92, t92, hS2, -⟩ := (c2 (M 178 i) hP.1 (by omega)).1 hpl
      have ea2 : (M 11 (M 178 i)).toNat = a2 := by omega
      rw [ea2] at d2 ⊢
      rw [h1 a2 (by rcases hS2.2 with q | q <;> omega)]
      exact d2
  · intro k k0 k1
    rw [e20] at k1
    rw [q11, q12, q13, q14, k183, k184, NM]
    obtain ⟨d1, d2, r, b, d3, d4⟩ := c3 k k0 k1
    exact ⟨d1, d2, r, b, d3, rowD_keep d4 rfl rfl (h1 r (Or.inr (Or.inr (Or.inr d4.2.1.1)))) (h1 b (Or.inr (Or.inr (Or.inr d4.2.1.2.1))))⟩
  · intro i j i0 i1 j0 j1 ij hi hj f1 f2
    rw [e5] at i1 j1
    rw [LV] at hi hj
    rw [k171] at f1 f2
    obtain ⟨a, ha, h9, t9, hS, -⟩ := (c2 i i0 i1).1 hi
    obtain ⟨b, hb, h92, t92, hS2, -⟩ := (c2 j j0 j1).1 hj
    have q := c4 i j i0 i1 j0 j1 ij hi hj f1 f2
    have ea : (M 11 i).toNat = a := by omega
    have eb : (M 11 j).toNat = b := by omega
    rw [q11]
    rw [ea, eb] at q ⊢
    rw [h1 a (by rcases hS.2 with q | q <;> omega), h1 b (by rcases hS2.2 with q | q <;> omega)]
    exact q
