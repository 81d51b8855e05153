/-! THE TREE WITH AN ENTRY LESS: the class's cells hold the same, the node still among them -/
section TREEDEL3
variable {sh : Nat → Option Shp} {M M2 : FM} {p x n : Int} {af ac : Nat}
theorem treeX_del (hT : treeR sh M) (hB : delB M M2 p x n af ac) (hp0 : 0 ≤ p) (hp1 : p < M 168 20) (hn : n = M 186 p) (hx : x = M 184 p) (hno : cnt (M 183) (M 168 20).toNat x = 0) (hFa : M 11 (M 183 p) = af) (hxa : M 11 x = ac) (hne : af ≠ ac) : treeX sh M2 x := by
  have hW2 := twR_del hT.1 hB hp0 hp1 hn hx hno
  have ND := nm_del hT.1 hB hp0 hp1 hn
  obtain ⟨b1, ⟨b21, b22, b23, b24⟩, ⟨b31, b32, b33, b34, b35⟩, b4, b5, ⟨b61, b62⟩, b7, b8⟩ := hB
  obtain ⟨hW, c1, c2, c3, c4⟩ := hT
  have hW0 := hW
  obtain ⟨w1, w2, w3, w4, w5, w6, w7⟩ := hW
  have k9 := b7 9 (by omega)
  have k10 := b7 10 (by omega)
  have k11 := b7 11 (by omega)
  have k171 := b7 171 (by omega)
  have k172 := b7 172 (by omega)
  have k173 := b7 173 (by omega)
  have k174 := b7 174 (by omega)
  have k175 := b7 175 (by omega)
  have k176 := b7 176 (by omega)
  have k178 := b7 178 (by omega)
  have k179 := b7 179 (by omega)
  have k180 := b7 180 (by omega)
  have k181 := b7 181 (by omega)
  have k182 := b7 182 (by omega)
  obtain ⟨⟨f1, f2, f3, f4⟩, ⟨f5, f6⟩, -, -⟩ := w4.2 p hp0 hp1
  have hlx : live M x := by
    have hc := (w7 x (by omega) (by omega)).1
    have q := cnt_pos (M 184) x (M 168 20).toNat p.toNat (by omega) (by rw [show ((p.toNat : Nat) : Int) = p by omega]; exact hx.symm)
    exact Or.inr (by omega)
  have LV : ∀ i : Int, lvX M2 x i ↔ live M i := by
    intro i
    unfold lvX
    by_cases e : i = x
    · rw [e]
      exact ⟨fun _ => hlx, fun _ => Or.inr rfl⟩
    · have q : live M2 i = live M i := by
        unfold live
        rw [b5, ur_ne e]
      rw [q]
      exact ⟨fun h => h.elim id (fun z => absurd z e), Or.inl⟩
  have RK : ∀ {r b0 : Nat} {T0 : List Int}, rowD sh M r b0 T0 → r ≠ af → r ≠ ac → b0 ≠ af → b0 ≠ ac → rowD sh M2 r b0 T0 := by
    intro r b0 T0 h q1 q2 q3 q4
    exact rowD_keep h rfl rfl (b8 r (Or.inr h.2.1.1) q1 q2) (b8 b0 (Or.inr h.2.1.2.1) q3 q4)
  obtain ⟨aF, haF, hF1, hF2, sF, eF, -⟩ := (c2 (M 183 p) f1 f2).1 f3
  obtain ⟨aX, haX, hX1, hX2, sX, eX, -⟩ := (c2 x (by omega) (by omega)).1 hlx
  have q1 : aF = af := by omega
  have q2 : aX = ac := by omega
  rw [q1] at sF eF
  rw [q2] at sX eX
  have RN : ∀ {r b0 : Nat} {T0 : List Int}, rowD sh M r b0 T0 → rowD sh M2 r b0 T0 := by
    intro r b0 T0 h
    refine RK h ?_ ?_ ?_ ?_
    · intro z
      have y := h.1.1
      rw [z, sF.1] at y
      cases y
    · intro z
      have y := h.1.1
      rw [z, sX.1] at y
      cases y
    · intro z
      have y := h.1.2
      rw [z, sF.1] at y
      cases y
    · intro z
      have y := h.1.2
      rw [z, sX.1] at y
      cases y
  -- a node's places but 9 and 10
  have NP : ∀ (a : Nat) (i : Int), (a = 17 ∨ 265 ≤ a) → i ≠ 9 → i ≠ 10 → M2 a i = M a i := by
    intro a i ha i9 i10
    by_cases e1 : a = af
    · rw [e1, b61, ur_ne i10]
    · by_cases e2 : a = ac
      · rw [e2, b62, ur_ne i9]
      · rw [b8 a ha e1 e2]
  have e1 : (M 168 20 - 1).toNat + 1 = (M 168 20).toNat := by omega
  have CN : ∀ v : Int, cnt (M2 183) (M 168 20 - 1).toNat v + (if M 183 p = v then 1 else 0) = cnt (M 183) (M 168 20).toNat v := by
    intro v
    have y2 : cnt (M2 183) (M 168 20 - 1).toNat v = cnt (del (M 183) p) (M 168 20 - 1).toNat v := cnt_congr v _ (fun k hk => (b1 k (by omega) (by omega)).2.1)
    have y3 := cnt_del (M 183) p.toNat v (M 168 20 - 1).toNat (by omega)
    rw [show ((p.toNat : Nat) : Int) = p by omega, e1] at y3
    rw [y2]
    exact y3
  refine ⟨hW2, ?_, fun i i0 i1 => ?_, fun k k0 k1 => ?_, fun i j i0 i1 j0 j1 ij hi hj g1 g2 => ?_⟩
  · obtain ⟨y1, y2, y3, y4, y5⟩ := c1
    refine ⟨by omega, by omega, by omega, by omega, ?_⟩
    rw [k9, b32]
    exact y5
  · rw [b31] at i1
    rw [LV i, k11]
    refine ⟨fun hli => ?_, (c2 i i0 i1).2⟩
    obtain ⟨a, ha, h9, t9, hS9, hE9, hF9, hL9, hD9⟩ := (c2 i i0 i1).1 hli
    refine ⟨a, ha, h9, t9, hS9, ?_, ?_, ?_, ?_⟩
    · obtain ⟨y0, y1, y2, y3, y4, y5, y6, y7, y8⟩ := hE9
      unfold ndE
      rw [k171, k172, k173, k174, k175, k176, b34, NP a 0 hS9.2 (by omega) (by omega), NP a 1 hS9.2 (by omega) (by omega), NP a 2 hS9.2 (by omega) (by omega), NP a 5 hS9.2 (by omega) (by omega), NP a 6 hS9.2 (by omega) (by omega), NP a 7 hS9.2 (by omega) (by omega), NP a 8 hS9.2 (by omega) (by omega)]
      refine ⟨y0, y1, y2, y3, y4, y5, y6, ?_, ?_⟩
      · by_cases e : i = x
        · have ea : a = ac := by rw [e] at ha; omega
          rw [ea, b62, ur_at, b5, e, ur_at]
          rw [ea, e] at y7
          omega
        · have ea : a ≠ ac := by
            intro z
            have z2 := eX.1
            rw [z] at y0
            omega
          rw [b5, ur_ne e]
          by_cases e3 : a = af
          · rw [e3, b61, ur_ne (by omega), ← e3]
            exact y7
          · rw [b8 a hS9.2 e3 ea]
            exact y7
      · have y := CN i
        by_cases e : i = M 183 p
        · have ea : a = af := by rw [e] at ha; omega
          rw [if_pos e.symm] at y
          rw [ea, b61, ur_at]
          rw [ea] at y8
          omega
        · have ea : a ≠ af := by
            intro z
            have z2 := eF.1
            rw [z] at y0
            omega
          rw [if_neg (fun z => e z.symm)] at y
          by_cases e3 : a = ac
          · rw [e3, b62, ur_ne (by omega), ← e3]
            omega
          · rw [b8 a hS9.2 ea e3]
            omega
    · unfold ndF
      rw [NP a 11 hS9.2 (by omega) (by omega), NP a 12 hS9.2 (by omega) (by omega), k9, k10, k171, k179, k180, k181]
      exact hF9
    · unfold ndL
      rw [k171, k179, k180, k182]
      refine ⟨fun z => ?_, hL9.2⟩
      obtain ⟨q, b0, y1, y2⟩ := hL9.1 z
      exact ⟨q, b0, y1, RN y2⟩
    · unfold ndD
      rw [NP a 4 hS9.2 (by omega) (by omega), k171, k178, k11]
      refine ⟨hD9.1, fun z => ⟨(hD9.2 z).1, (hD9.2 z).2.1, fun hi0 => ?_⟩⟩
      obtain ⟨y1, y2⟩ := (hD9.2 z).2.2 hi0
      refine ⟨y1, ?_⟩
      have hP := (w1.2 i i0 i1).2.1 hi0
      have hpl : live M (M 178 i) := by
        have hl2 : 0 < M 177 i := by
          rcases hli with q | q
          · omega
          · exact q
        obtain ⟨k, hk, e⟩ := cnt_ex (M 184) i (M 168 20).toNat (by have := (w7 i i0 i1).1; omega)
        obtain ⟨⟨v1, v2, v3, v4⟩, -, -, v5⟩ := w4.2 k (by omega) (by omega)
        rw [e] at v5
        rw [← v5 z]
        exact v3
      obtain ⟨a2, ha2, _, _, sA, -⟩ := (c2 (M 178 i) hP.1 (by omega)).1 hpl
      have ea2 : (M 11 (M 178 i)).toNat = a2 := by omega
      rw [ea2] at y2 ⊢
      rw [NP a2 4 sA.2 (by omega) (by omega)]
      exact y2
  · rw [b34] at k1
    obtain ⟨⟨r1, r2, r3⟩, ⟨d1, d2, d3⟩, d4, ⟨d5, d6, d7⟩, -⟩ := ND k k0 k1
    rw [k11, d1, d2, d4, d5, d6, d7]
    obtain ⟨y1, y2, r, b0, y3, y4⟩ := c3 _ r1 r2
    exact ⟨y1, y2, r, b0, y3, RN y4⟩
  · rw [b31] at i1 j1
    rw [LV] at hi hj
    rw [k171] at g1 g2
    obtain ⟨a, ha, _, _, sA, -⟩ := (c2 i i0 i1).1 hi
    obtain ⟨a2, ha2, _, _, sA2, -⟩ := (c2 j j0 j1).1 hj
    have q := c4 i j i0 i1 j0 j1 ij hi hj g1 g2
    have ea : (M 11 i).toNat = a := by omega
    have eb : (M 11 j).toNat = a2 := by omega
    rw [k11]
    rw [ea, eb] at q ⊢
    rw [NP a 11 sA.2 (by omega) (by omega), NP a 12 sA.2 (by omega) (by omega), NP a2 11 sA2.2 (by omega) (by omega), NP a2 12 sA2.2 (by omega) (by omega)]
    exact q
end TREEDEL3
