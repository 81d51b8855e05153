/-! MOUNTING: all inodes; the class's hold -/
def pq (M : FM) (a : Nat) (i x : Int) : FM := um M a (ur (M a) i x)
theorem pq_o (M : FM) {a c : Nat} (i x : Int) (h : c ≠ a) : pq M a i x c = M c := um_ne h
theorem pq_at (M : FM) (a : Nat) (i x : Int) : pq M a i x a i = x := by
  unfold pq
  rw [um_at, ur_at]
theorem pq_ne (M : FM) (a : Nat) (i x : Int) {j : Int} (h : j ≠ i) : pq M a i x a j = M a j := by
  unfold pq
  rw [um_at, ur_ne h]
def hoF (M M2 : FM) (n B : Int) : Prop := (∀ c : Nat, c ≠ 101 → c ≠ 106 → c ≠ 107 → c ≠ 108 → M2 c = M c) ∧ M2 101 2 = n ∧ M2 101 3 = B
/-- c inodes before p: where each begins, and its number -/
def bgV (M2 : FM) (h : Int → Int) (c p : Int) : Prop := (∀ i : Int, 0 ≤ i → i < c → (0 ≤ M2 106 i ∧ M2 106 i < p) ∧ h (M2 106 i) = M2 107 i) ∧ (∀ i j : Int, 0 ≤ i → i < j → j < c → M2 106 i < M2 106 j) ∧ (∀ x : Int, h x ≠ 0 → ∃ i : Int, 0 ≤ i ∧ i < c ∧ M2 106 i = x)
section HOLD
variable {d nx zl : Nat} {K : Option TV → FH → Prop} {sh : Nat → Option Shp} {M : FM} {g : Int → Int} {N B n ids F : Int}
theorem ndC_to {M M2 : FM} (h : ndC M g N B) (h1 : M2 104 = M 104) (h2 : M2 105 = M 105) (h3 : M2 2 = M 2) (h4 : M2 101 3 = B) : ndC M2 g N B := by
  obtain ⟨⟨n1, n2, n3, n4⟩, ⟨b1, b2, b3⟩, f⟩ := h
  refine ⟨⟨by rw [h1]; exact n1, by rw [h2]; exact n2, n3, n4⟩, ⟨h4, b2, b3⟩, ?_⟩
  rw [h3]
  exact f
theorem hold_Y (hN : M 104 1 = N ∧ agr (M 105) g N ∧ 0 ≤ N ∧ N ≤ 65536) (hB : 4096 ≤ B ∧ B ≤ 65536) (hT2 : ∀ i : Int, 0 ≤ i → i < 15 → M 2 i = fxT i) (hn : 1 ≤ n ∧ n ≤ 4096) (hids : 0 ≤ ids ∧ ids ≤ 65536) (hF : 0 ≤ F ∧ F ≤ 4096)
    (k0 : ∀ M2 : FM, hoF M M2 n B → inS g N B ids F n = none → K (some (ti 0)) (sh, M2, nx, zl))
    (k1 : ∀ (M2 : FM) (pl h : Int → Int), hoF M M2 n B → inS g N B ids F n = some (pl, h) → inV g N B ids F n pl h → (∀ j : Int, 1 ≤ j → j ≤ n → M2 108 j = pl j) → bgV M2 h n N → K (some (ti 1)) (sh, M2, nx, zl)) : fm_Y (d + 6) 156 [.ref 101, .int (Int32.ofInt n), .int (Int32.ofInt B), .int (Int32.ofInt ids), .int (Int32.ofInt F)] (sh, M, nx, zl) K := by
  refine m156 [fx 101, ti n, ti B, ti ids, ti F] ?_
  -- one inode behind the other
  have L : ∀ (G : Nat) (p c : Int) (pl h : Int → Int) (M1 : FM) (y7 y8 : Option TV), N - p < G → 0 ≤ p → p ≤ N → 0 ≤ c → c ≤ n → inS g N B ids F n = inG g N B ids F n G p c pl h → ivI g N B ids F n p c pl h → hoF M M1 n B → (∀ j : Int, 1 ≤ j → j ≤ n → M1 108 j = pl j) → bgV M1 h c p → (∀ j : Int, -1 ≤ pl j) → fm_X (d + 5) kd156 39 [some (fx 101), some (ti n), some (ti B), some (ti ids), some (ti F), some (ti p), some (ti c), y7, y8] [] (sh, M1, nx, zl) K := by
    intro G
    induction G with
    | zero => intro p c pl h M1 y7 y8 h1; omega
    | succ G ih =>
      intro p c pl h M1 y7 y8 h1 h2 h3 h4 h5 h6 h7 h8 h9 h10 h11
      have er : inG g N B ids F n (G + 1) p c pl h = if N ≤ p then (if c = n then some (pl, h) else none) else cif (0 ≤ iE g N B ids F p ∧ (1 ≤ le g (p + 12) 4 ∧ le g (p + 12) 4 ≤ n) ∧ pl (le g (p + 12) 4) < 0) (inG g N B ids F n G (iE g N B ids F p) (c + 1) (ur pl (le g (p + 12) 4) p) (ur h p (le g (p + 12) 4))) none := rfl
      rw [er] at h6
      have e104 := h8.1 104 (by omega) (by omega) (by omega) (by omega)
      have hI : ndC M1 g N B := ndC_to (M := um M 101 (ur (M 101) 3 B)) ⟨by rw [um_ne (by omega), um_ne (by omega)]; exact hN, ⟨by rw [um_at, ur_at], hB⟩, by rw [um_ne (by omega)]; exact hT2⟩ (by rw [um_ne (by omega)]; exact e104) (by rw [um_ne (by omega)]; exact h8.1 105 (by omega) (by omega) (by omega) (by omega)) (by rw [um_ne (by omega)]; exact h8.1 2 (by omega) (by omega) (by omega) (by omega)) h8.2.2
      have q1 : M1 104 1 = N := hI.1.1
      refine s156_39 (d + 5) K _ _ _ ?_
      refine ⟨by omega, fun w => ?_, fun w => ?_⟩
      · -- as many as there are
        have ec : c = n := by omega
        refine ⟨by omega, ?_⟩
        obtain ⟨R, gR⟩ : ∃ R : FM, R = um M1 106 (ur (M1 106) n p) := ⟨_, rfl⟩
        have rF : hoF M R n B := by
          refine ⟨fun c c1 c2 c3 c4 => ?_, ?_, ?_⟩
          · rw [gR, um_ne c2]
            exact h8.1 c c1 c2 c3 c4
          · rw [gR, um_ne (by omega)]
            exact h8.2.1
          · rw [gR, um_ne (by omega)]
            exact h8.2.2
        have r104 : R 104 1 = N := by rw [gR, um_ne (by omega)]; exact q1
        have T : K (some (ti (if p = N then 1 else 0))) (sh, R, nx, zl) := by
          by_cases e : p = N
          · rw [if_pos e]
            rw [if_pos (by omega), if_pos ec] at h6
            rw [ec] at h7
            refine k1 R pl h rF h6 (iv_end (by omega) (by omega) h7) (fun j j1 j2 => ?_) ?_
            · rw [gR, um_ne (by omega)]
              exact h9 j j1 j2
            · rw [ec, e] at h10
              obtain ⟨z1, z2, z3⟩ := h10
              have ei : ∀ i : Int, i < n → R 106 i = M1 106 i := fun i hi => by rw [gR, um_at, ur_ne (by omega)]
              have ej : R 107 = M1 107 := by rw [gR, um_ne (by omega)]
              refine ⟨fun i i0 i1 => ?_, fun i j i0 i1 i2 => ?_, fun x hx => ?_⟩
              · rw [ei i i1, ej]
                exact z1 i i0 i1
              · rw [ei i (by omega), ei j i2]
                exact z2 i j i0 i1 i2
              · obtain ⟨i, a, b, c⟩ := z3 x hx
                exact ⟨i, a, b, by rw [ei i b]; exact c⟩
          · rw [if_neg e]
            rw [if_neg (by omega)] at h6
            rw [ec] at h7
            rw [cif_neg (fun z => by have := iv_full (by omega) h7 z.2.1; omega)] at h6
            exact k0 R rF h6
        by_cases e : p = N
        · rw [if_pos e] at T
          rw [gR] at T r104
          refine ⟨by omega, fun w2 => absurd ?_ w2, fun w2 => ⟨Or.inr rfl, T⟩⟩
          omega
        · rw [if_neg e] at T
          rw [gR] at T r104
          refine ⟨by omega, fun w2 => ⟨Or.inl rfl, T⟩, fun w2 => absurd ?_ e⟩
          omega
      -- one more
      have NO : ¬ (p < N ∧ 0 ≤ iE g N B ids F p ∧ (1 ≤ le g (p + 12) 4 ∧ le g (p + 12) 4 ≤ n) ∧ pl (le g (p + 12) 4) < 0) → K (some (ti 0)) (sh, M1, nx, zl) := by
        intro q
        refine k0 M1 h8 ?_
        rw [h6]
        by_cases e : N ≤ p
        · rw [if_pos e, if_neg (by omega)]
        · rw [if_neg e, cif_neg (fun z => q ⟨by omega, z⟩)]
      have B67 : ∀ r : Int, (-1 ≤ r ∧ r ≤ 300000) → ((0 ≤ iE g N B ids F p ∧ hdP g N ids p ∧ r = iE g N B ids F p - p ∧ iE g N B ids F p ≤ N ∧ p + 20 ≤ iE g N B ids F p) ∨ (iE g N B ids F p = -1 ∧ (r < 0 ∨ N < p + r))) → b156_67 (d + 5) (fW (d + 5) kd156 K) K [some (fx 101), some (ti n), some (ti B), some (ti ids), some (ti F), some (ti p), some (ti c), y7, y8] [ti r] (sh, M1, nx, zl) := by
        intro r rr hr
        refine g4o_Y hI (by omega) (fun x x1 x2 x3 => ?_)
        refine ⟨by omega, fun w1 => ⟨Or.inl rfl, NO (fun q => by omega)⟩, fun w1 => ?_⟩
        refine ⟨by omega, fun w2 => ⟨Or.inl rfl, NO (fun q => by omega)⟩, fun w2 => ?_⟩
        have hg : 0 ≤ iE g N B ids F p ∧ hdP g N ids p ∧ r = iE g N B ids F p - p ∧ iE g N B ids F p ≤ N ∧ p + 20 ≤ iE g N B ids F p := by
          rcases hr with z | z
          · exact z
          · omega
        have h16 := hg.2.1.1
        have x4 := x2 (by omega) (by omega)
        refine ⟨by omega, fun w3 => ⟨Or.inl rfl, NO (fun q => by omega)⟩, fun w3 => ?_⟩
        refine ⟨by omega, fun w4 => ⟨Or.inl rfl, NO (fun q => by omega)⟩, fun w4 => ?_⟩
        have ex : x = le g (p + 12) 4 := by omega
        obtain ⟨m, gm⟩ : ∃ m : Int, m = le g (p + 12) 4 := ⟨_, rfl⟩
        rw [← gm] at ex NO h6
        rw [ex]
        rw [ex] at w3 w4
        have e108 := h9 m (by omega) (by omega)
        have r108 : -1 ≤ pl m ∧ pl m ≤ 65536 := by
          have a := h11 m
          have b := h7.1 m
          omega
        refine ⟨by omega, ?_⟩
        refine ⟨by omega, fun w5 => ?_, fun w5 => ⟨Or.inl rfl, NO (fun q => by omega)⟩⟩
        refine ⟨by omega, ?_⟩
        refine ⟨by omega, ?_⟩
        refine ⟨by omega, ?_⟩
        rw [if_neg (by omega), cif_pos ⟨hg.1, by omega, by omega⟩] at h6
        obtain ⟨R, gR⟩ : ∃ R : FM, R = pq (pq (pq M1 106 c p) 107 c m) 108 m p := ⟨_, rfl⟩
        have a106 : ∀ i : Int, R 106 i = if i = c then p else M1 106 i := by
          intro i
          rw [gR, pq_o _ _ _ (by omega), pq_o _ _ _ (by omega)]
          split
          · rename_i e
            rw [e, pq_at]
          · rename_i e
            rw [pq_ne _ _ _ _ e]
        have a107 : ∀ i : Int, R 107 i = if i = c then m else M1 107 i := by
          intro i
          rw [gR, pq_o _ _ _ (by omega)]
          split
          · rename_i e
            rw [e, pq_at]
          · rename_i e
            rw [pq_ne _ _ _ _ e, pq_o _ _ _ (by omega)]
        have a108 : ∀ i : Int, R 108 i = if i = m then p else M1 108 i := by
          intro i
          rw [gR]
          split
          · rename_i e
            rw [e, pq_at]
          · rename_i e
            rw [pq_ne _ _ _ _ e, pq_o _ _ _ (by omega), pq_o _ _ _ (by omega)]
        have TL : fm_X (d + 5) kd156 39 [some (fx 101), some (ti n), some (ti B), some (ti ids), some (ti F), some (ti (p + r)), some (ti (c + 1)), some (ti r), some (ti m)] [] (sh, R, nx, zl) K := by
          have ep : p + r = iE g N B ids F p := by omega
          rw [ep]
          refine ih _ _ (ur pl m p) (ur h p m) R _ _ (by omega) (by omega) (by omega) (by omega) (by omega) h6 (iv_step hB.1 h2 h7 hg.1 (by omega) (by omega)) ?_ (fun j j1 j2 => ?_) ?_ (fun j => by have := h11 j; unfold ur; split <;> omega)
          · refine ⟨fun c c1 c2 c3 c4 => ?_, ?_, ?_⟩
            · rw [gR, pq_o _ _ _ c4, pq_o _ _ _ c3, pq_o _ _ _ c2]
              exact h8.1 c c1 c2 c3 c4
            · rw [gR, pq_o _ _ _ (by omega), pq_o _ _ _ (by omega), pq_o _ _ _ (by omega)]
              exact h8.2.1
            · rw [gR, pq_o _ _ _ (by omega), pq_o _ _ _ (by omega), pq_o _ _ _ (by omega)]
              exact h8.2.2
          · rw [a108]
            unfold ur
            split
            · rfl
            · exact h9 j j1 j2
          · obtain ⟨z1, z2, z3⟩ := h10
            refine ⟨fun i i0 i1 => ?_, fun i j i0 i1 i2 => ?_, fun x hx => ?_⟩
            · rw [a106, a107]
              by_cases e : i = c
              · rw [if_pos e, if_pos e, ur_at]
                exact ⟨by omega, rfl⟩
              · rw [if_neg e, if_neg e]
                obtain ⟨z4, z5⟩ := z1 i i0 (by omega)
                rw [ur_ne (by omega)]
                exact ⟨by omega, z5⟩
            · rw [a106, a106, if_neg (by omega)]
              by_cases e : j = c
              · rw [if_pos e]
                exact (z1 i i0 (by omega)).1.2
              · rw [if_neg e]
                exact z2 i j i0 i1 (by omega)
            · by_cases e : x = p
              · exact ⟨c, by omega, by omega, by rw [a106, if_pos rfl, e]⟩
              · rw [ur_ne e] at hx
                obtain ⟨i, i0, i1, i2⟩ := z3 x hx
                exact ⟨i, i0, by omega, by rw [a106, if_neg (by omega)]; exact i2⟩
        rw [gR] at TL
        exact TL
      refine headHolds_Y hI (by omega) hids (fun z hz => ?_)
      rcases hz with ⟨z1, z2⟩ | ⟨z1, z2⟩
      · rw [z1]
        refine ⟨by omega, fun q => by omega, fun _ => ?_⟩
        have eE : iE g N B ids F p = bodE g N B F p := cif_pos z2
        refine checkedLength_Y hI h2 z2.1 hF z2.2.1 z2.2.2.1 (fun r hr => ?_)
        refine B67 r hr.1 ?_
        rw [eE]
        rcases hr.2 with y | y
        · refine Or.inl ⟨by omega, z2, y.2.2, y.2.1, ?_⟩
          rcases iE_r (g := g) (N := N) (ids := ids) (F := F) hB.1 h2 with x | x
          · omega
          · omega
        · exact Or.inr y
      · rw [z1]
        refine ⟨by omega, fun _ => ?_, fun q => absurd rfl q⟩
        exact B67 (-1) (by omega) (Or.inr ⟨cif_neg z2, by omega⟩)
  -- first no number is told
  have L13 : ∀ (G : Nat) (j : Int) (M1 : FM) (y6 y7 y8 : Option TV), (n + 1 - j).toNat < G → 1 ≤ j → j ≤ n + 1 → hoF M M1 n B → (∀ i : Int, 1 ≤ i → i < j → M1 108 i = -1) → fm_X (d + 5) kd156 13 [some (fx 101), some (ti n), some (ti B), some (ti ids), some (ti F), some (ti j), y6, y7, y8] [] (sh, M1, nx, zl) K := by
    intro G
    induction G with
    | zero => intro j M1 y6 y7 y8 h; omega
    | succ G ih =>
      intro j M1 y6 y7 y8 h1 h2 h3 h4 h5
      refine s156_13 (d + 5) K _ _ _ ?_
      refine ⟨by omega, fun w => ?_, fun w => ?_⟩
      · refine L _ 0 0 (fun _ => -1) (fun _ => 0) M1 _ _ (by omega) (by omega) (by omega) (by omega) (by omega) rfl (iv_0 g N B ids F n) h4 (fun i i1 i2 => h5 i i1 (by omega)) ?_ (fun j => by show (-1 : Int) ≤ -1; omega)
        exact ⟨fun i i0 i1 => by omega, fun i j i0 i1 i2 => by omega, fun x hx => absurd rfl hx⟩
      · refine ⟨by omega, ?_⟩
        refine ih (j + 1) _ _ _ _ (by omega) (by omega) (by omega) ?_ (fun i i1 i2 => ?_)
        · refine ⟨fun c c1 c2 c3 c4 => ?_, ?_, ?_⟩
          · rw [um_ne c4]
            exact h4.1 c c1 c2 c3 c4
          · rw [um_ne (by omega)]
            exact h4.2.1
          · rw [um_ne (by omega)]
            exact h4.2.2
        · rw [um_at]
          unfold ur
          split
          · rfl
          · exact h5 i i1 (by omega)
  obtain ⟨R, gR⟩ : ∃ R : FM, R = pq (pq M 101 2 n) 101 3 B := ⟨_, rfl⟩
  have TL : fm_X (d + 5) kd156 13 [some (fx 101), some (ti n), some (ti B), some (ti ids), some (ti F), some (ti 1), none, none, none] [] (sh, R, nx, zl) K := by
    refine L13 _ 1 R _ _ _ (Nat.lt_succ_self _) (by omega) (by omega) ⟨fun c c1 c2 c3 c4 => ?_, ?_, ?_⟩ (fun i i1 i2 => by omega)
    · rw [gR, pq_o _ _ _ c1, pq_o _ _ _ c1]
    · rw [gR, pq_ne _ _ _ _ (by omega), pq_at]
    · rw [gR, pq_at]
  rw [gR] at TL
  exact TL
end HOLD
