/-! MOUNTING: the length of one inode; the class -/
def lnO (N p r E : Int) : Prop := (-1 ≤ r ∧ r ≤ 300000) ∧ ((p ≤ E ∧ E ≤ N ∧ r = E - p) ∨ (E = -1 ∧ (r < 0 ∨ N < p + r)))
theorem iw_r {g : Int → Int} {N : Int} : ∀ (k : Nat) (e : Int), 0 ≤ e → e ≤ N → iwG g N k e = -1 ∨ (e ≤ iwG g N k e ∧ iwG g N k e ≤ N)
  | 0, e, h0, h1 => Or.inr ⟨Int.le_refl _, h1⟩
  | k + 1, e, h0, h1 => by
    have q := le_nn g 4 (e + 8)
    have er : iwG g N (k + 1) e = if e + 12 ≤ N ∧ le g (e + 8) 4 ≤ 255 ∧ e + 13 + le g (e + 8) 4 ≤ N then iwG g N k (e + 13 + le g (e + 8) 4) else -1 := rfl
    rw [er]
    split
    · rename_i c
      rcases iw_r k (e + 13 + le g (e + 8) 4) (by omega) c.2.2 with z | z
      · exact Or.inl z
      · exact Or.inr (by omega)
    · exact Or.inl rfl
section LENS
variable {d nx zl : Nat} {K : Option TV → FH → Prop} {sh : Nat → Option Shp} {M : FM} {g : Int → Int} {N B p : Int}
theorem folderLength_Y (hI : ndC M g N B) (hp : 0 ≤ p) (hT : le g p 2 = 1 ∨ le g p 2 = 8) (hf : p + fxT (le g p 2) ≤ N) (k : ∀ r : Int, lnO N p r (dirE g N p) → K (some (ti r)) (sh, M, nx, zl)) : fm_Y (d + 3) 161 [.ref 101, .int (Int32.ofInt p)] (sh, M, nx, zl) K := by
  obtain ⟨⟨n1, n2, n3, n4⟩, -, -⟩ := id hI
  have ef : (le g p 2 = 1 ∧ fxT (le g p 2) = 32) ∨ (le g p 2 = 8 ∧ fxT (le g p 2) = 40) := by
    rcases hT with c | c
    · exact Or.inl ⟨c, by rw [c]; rfl⟩
    · exact Or.inr ⟨c, by rw [c]; rfl⟩
  have NO : dirE g N p = -1 → K (some (ti (-1))) (sh, M, nx, zl) := fun h => k (-1) ⟨by omega, Or.inr ⟨h, by omega⟩⟩
  have L : ∀ (n : Nat) (j e : Int) (y4 : Option TV), n ≤ 65535 → j = n → 0 ≤ e → p ≤ e → e ≤ N + 300 → dirE g N p = (if e ≤ N then iwG g N n e else -1) → fm_X (d + 2) kd161 47 [some (fx 101), some (ti p), some (ti e), some (ti j), y4] [] (sh, M, nx, zl) K := by
    intro n
    induction n with
    | zero =>
      intro j e y4 hn hj h0 h1 h2 hE
      refine s161_47 (d + 2) K _ _ _ ?_
      refine ⟨by omega, fun w => ?_, fun w => by omega⟩
      refine k (e - p) ⟨by omega, ?_⟩
      by_cases c : e ≤ N
      · rw [if_pos c] at hE
        have hE2 : dirE g N p = e := hE
        exact Or.inl (by omega)
      · rw [if_neg c] at hE
        exact Or.inr (by omega)
    | succ n ih =>
      intro j e y4 hn hj h0 h1 h2 hE
      refine s161_47 (d + 2) K _ _ _ ?_
      refine ⟨by omega, fun w => by omega, fun w => ?_⟩
      refine g4o_Y hI (by omega) (fun x x1 x2 x3 => ?_)
      have er : iwG g N (n + 1) e = if e + 12 ≤ N ∧ le g (e + 8) 4 ≤ 255 ∧ e + 13 + le g (e + 8) 4 ≤ N then iwG g N n (e + 13 + le g (e + 8) 4) else -1 := rfl
      rw [er] at hE
      refine ⟨by omega, fun w1 => NO ?_, fun w1 => ?_⟩
      · rw [hE]
        split
        · rw [if_neg (fun c => by omega)]
        · rfl
      rw [if_pos (by omega)] at hE
      have x4 := x2 (by omega) (by omega)
      refine ⟨by omega, fun w2 => NO ?_, fun w2 => ?_⟩
      · rw [hE, if_neg (fun c => by omega)]
      refine ⟨by omega, fun w3 => ?_, fun w3 => NO ?_⟩
      · have ex : x = le g (e + 8) 4 := by omega
        have en : e + (12 + x + 1) = e + 13 + le g (e + 8) 4 := by omega
        have T : fm_X (d + 2) kd161 47 [some (fx 101), some (ti p), some (ti (e + 13 + le g (e + 8) 4)), some (ti (j + -1)), some (ti x)] [] (sh, M, nx, zl) K := by
          refine ih _ _ _ (by omega) (by omega) (by omega) (by omega) (by omega) ?_
          rw [hE]
          by_cases c : e + 13 + le g (e + 8) 4 ≤ N
          · rw [if_pos (by omega), if_pos c]
          · rw [if_neg (by omega), if_neg c]
        rw [← en] at T
        exact T
      · rw [hE, if_neg (fun c => by omega)]
  refine m161 [fx 101, ti p] ?_
  have GO : (3 ≤ (if le g p 2 ≤ 7 then le g (p + 24) 2 else le g (p + 20) 4)) → (7 < le g p 2 → le g (p + 36) 4 = 4294967295) → b161_35 (d + 2) (fW (d + 2) kd161 K) K [some (fx 101), some (ti p), none, none, none] [] (sh, M, nx, zl) := by
    intro h3 h4
    refine indexesAt_Y hI (by omega) (by omega) ?_
    refine indexCount_Y hI (by omega) (fun _ => by omega) (by omega) ?_
    have l32 := le_nn g 2 (p + 32)
    have l32' := le_lt2 g (p + 32)
    refine L (if le g p 2 ≤ 7 then 0 else le g (p + 32) 2).toNat _ _ _ (by split <;> omega) ?_ (by omega) (by omega) (by omega) ?_
    · split
      · rfl
      · omega
    · rw [if_pos hf]
      unfold dirE
      by_cases c : le g p 2 ≤ 7
      · rw [if_pos c] at h3 ⊢
        rw [if_pos h3, if_pos c]
        show p + 32 = p + fxT (le g p 2)
        omega
      · rw [if_neg c] at h3 ⊢
        rw [if_pos ⟨h3, h4 (by omega)⟩, if_neg c, show p + fxT (le g p 2) = p + 40 by omega]
  have l24 := le_nn g 2 (p + 24)
  have l24' := le_lt2 g (p + 24)
  have l20 := le_nn g 4 (p + 20)
  have l20' := le_lt4 g (p + 20)
  refine listingSize_Y hI (by omega) (by omega) ?_
  by_cases c : le g p 2 ≤ 7
  · rw [if_pos c] at GO ⊢
    refine ⟨by omega, fun w => NO ?_, fun w => ?_⟩
    · unfold dirE
      rw [if_pos c, if_neg (by omega)]
    refine isExtended_Y hI (by omega) (by omega) (fun z hz => ?_)
    refine ⟨by omega, fun w1 => GO (by omega) (fun q => by omega), fun w1 => by omega⟩
  · rw [if_neg c] at GO ⊢
    refine ⟨by omega, fun w => NO ?_, fun w => ?_⟩
    · unfold dirE
      rw [if_neg c, if_neg (fun q => by omega)]
    refine isExtended_Y hI (by omega) (by omega) (fun z hz => ?_)
    refine ⟨by omega, fun w1 => by omega, fun w1 => ?_⟩
    refine g4i_Y hI (by omega) (fun x x1 x2 x3 => ?_)
    refine ⟨by omega, fun w2 => GO (by omega) (fun q => by omega), fun w2 => NO ?_⟩
    unfold dirE
    rw [if_neg c, if_neg (fun q => by omega)]
theorem fileLength_Y {F : Int} (hI : ndC M g N B) (hp : 0 ≤ p) (hF : 0 ≤ F ∧ F ≤ 4096) (hT : le g p 2 = 2 ∨ le g p 2 = 9) (hf : p + fxT (le g p 2) ≤ N) (k : ∀ r : Int, lnO N p r (filE g N B F p) → K (some (ti r)) (sh, M, nx, zl)) : fm_Y (d + 4) 167 [.ref 101, .int (Int32.ofInt p), .int (Int32.ofInt F)] (sh, M, nx, zl) K := by
  obtain ⟨⟨n1, n2, n3, n4⟩, ⟨b1, b2, b3⟩, hFX⟩ := id hI
  have ef : (le g p 2 = 2 ∧ fxT (le g p 2) = 32) ∨ (le g p 2 = 9 ∧ fxT (le g p 2) = 56) := by
    rcases hT with c | c
    · exact Or.inl ⟨c, by rw [c]; rfl⟩
    · exact Or.inr ⟨c, by rw [c]; rfl⟩
  have hp3 : 0 ≤ p ∧ p + 32 ≤ N ∧ (7 < le g p 2 → p + 56 ≤ N) := ⟨by omega, by omega, fun _ => by omega⟩
  have hT14 : 1 ≤ le g p 2 ∧ le g p 2 ≤ 14 := by omega
  have NO : filE g N B F p = -1 → K (some (ti (-1))) (sh, M, nx, zl) := fun h => k (-1) ⟨by omega, Or.inr ⟨h, by omega⟩⟩
  have NF : ¬ flP g N B F (fSz g p) (fFr g p) (fOf g p) (p + fxT (le g p 2)) → K (some (ti (-1))) (sh, M, nx, zl) := fun h => NO (by unfold filE flE; rw [cif_neg h]; split <;> rfl)
  refine m167 [fx 101, ti p, ti F] ?_
  refine fileSize_Y hI (by omega) hT14 (fun q0 => ?_)
  refine type_Y hI (by omega) hT14 ?_
  refine ⟨by omega, ?_⟩
  rw [hFX _ (by omega) (by omega)]
  refine ⟨by omega, fun w1 => NF (fun h => by have := h.1.1; omega), fun w1 => ?_⟩
  refine ⟨by omega, fun w2 => NF (fun h => by have := h.1.2; omega), fun w2 => ?_⟩
  have mr := mod_r (fSz g p) b2
  have dr := div_r (fSz g p) b2 (by omega)
  have ebc : bcN B (fSz g p) (fFr g p) = fSz g p / B + (if fFr g p = 4294967295 ∧ 0 < fSz g p % B then 1 else 0) := rfl
  obtain ⟨bc, gbc⟩ : ∃ bc : Int, bc = bcN B (fSz g p) (fFr g p) := ⟨_, rfl⟩
  have rbc : 0 ≤ bc ∧ bc ≤ 1099511627777 := by
    rw [gbc, ebc]
    split <;> omega
  have B110 : (le g p 2 ≤ 7 ∨ le g (p + 52) 4 = 4294967295) → (fFr g p ≠ 4294967295 → fFr g p < F ∧ fSz g p % B ≠ 0 ∧ fOf g p + fSz g p % B ≤ B) → b167_110 (d + 3) (fW (d + 3) kd167 K) K [some (fx 101), some (ti p), some (ti F), some (tj (fSz g p)), none, some (ti (fxT (le g p 2))), none, none, none, none, none] [] (sh, M, nx, zl) := by
    intro hx hfr
    refine blockCount_Y hI hp3 hT14 (by omega) ?_
    rw [← gbc]
    refine ⟨by omega, ?_⟩
    refine ⟨by omega, ?_⟩
    refine ⟨by omega, fun w => ?_, fun w => NF (fun h => by have := h.2.2.1; omega)⟩
    have hroom : p + fxT (le g p 2) + 4 * bc ≤ N := by omega
    have L : ∀ (G : Nat) (i : Int) (y9 y10 : Option TV), (bc - i).toNat < G → 0 ≤ i → i ≤ bc → (∀ j : Int, 0 ≤ j → j < i → bkP B (le g (p + fxT (le g p 2) + 4 * j) 4)) → fm_X (d + 3) kd167 143 [some (fx 101), some (ti p), some (ti F), some (tj (fSz g p)), none, some (ti (fxT (le g p 2))), some (tj bc), none, some (ti i), y9, y10] [] (sh, M, nx, zl) K := by
      intro G
      induction G with
      | zero => intro i y9 y10 h; omega
      | succ G ih =>
        intro i y9 y10 h1 h2 h3 h4
        refine s167_143 (d + 3) K _ _ _ ?_
        refine ⟨by omega, ?_⟩
        refine ⟨by omega, fun w1 => ?_, fun w1 => ?_⟩
        · have P : flP g N B F (fSz g p) (fFr g p) (fOf g p) (p + fxT (le g p 2)) := ⟨by omega, hfr, by rw [← gbc]; exact hroom, fun j j0 j1 => h4 j j0 (by rw [← gbc] at j1; omega)⟩
          have eE : filE g N B F p = p + fxT (le g p 2) + 4 * bc := by
            unfold filE flE
            rw [if_pos hx, cif_pos P, ← gbc]
          refine k _ ⟨by omega, Or.inl ?_⟩
          rw [eE]
          omega
        have NB : ¬ bkP B (le g (p + fxT (le g p 2) + 4 * i) 4) → K (some (ti (-1))) (sh, M, nx, zl) := fun h => NF (fun q => h (q.2.2.2 i h2 (by omega)))
        refine blockNumber_Y hI (by omega) hT14 (by omega) (fun x x1 x2 x3 => ?_)
        refine ⟨by omega, fun w2 => NB (fun q => by have := q.1; omega), fun w2 => ?_⟩
        refine ⟨by omega, fun w3 => NB (fun q => by have := q.1; omega), fun w3 => ?_⟩
        have ex : x = le g (p + fxT (le g p 2) + 4 * i) 4 := by omega
        refine ⟨by omega, fun w4 => NB (fun q => by have := q.2.1; omega), fun w4 => ?_⟩
        have NEXT : bkP B (le g (p + fxT (le g p 2) + 4 * i) 4) → fm_X (d + 3) kd167 143 [some (fx 101), some (ti p), some (ti F), some (tj (fSz g p)), none, some (ti (fxT (le g p 2))), some (tj bc), none, some (ti (i + 1)), some (ti x), some (ti (x % 16777216))] [] (sh, M, nx, zl) K := by
          intro hb
          refine ih (i + 1) _ _ (by omega) (by omega) (by omega) (fun j j0 j1 => ?_)
          by_cases c : j < i
          · exact h4 j j0 c
          · have ej : j = i := by omega
            rw [ej]
            exact hb
        refine ⟨by omega, fun w5 => NEXT ⟨by omega, by omega, by omega⟩, fun w5 => ?_⟩
        exact ⟨by omega, fun w6 => NEXT ⟨by omega, by omega, by omega⟩, fun w6 => NB (fun q => by have := q.2.2; omega)⟩
    exact L _ 0 _ _ (Nat.lt_succ_self _) (by omega) (by omega) (fun j j0 j1 => by omega)
  have B56 : (le g p 2 ≤ 7 ∨ le g (p + 52) 4 = 4294967295) → b167_56 (d + 3) (fW (d + 3) kd167 K) K [some (fx 101), some (ti p), some (ti F), some (tj (fSz g p)), none, some (ti (fxT (le g p 2))), none, none, none, none, none] [] (sh, M, nx, zl) := by
    intro hx
    refine fragment_Y hI hp3 hT14 (fun x x1 x2 x3 => ?_)
    refine ⟨by omega, fun w => B110 hx (fun h => by omega), fun w => ?_⟩
    have hno : fFr g p ≠ 4294967295 := by omega
    refine fragment_Y hI hp3 hT14 (fun y y1 y2 y3 => ?_)
    refine unsig_Y (y := fFr g p) y2 (by omega) ?_
    refine ⟨by omega, ?_⟩
    refine ⟨by omega, fun w2 => NF (fun h => by have := (h.2.1 hno).1; omega), fun w2 => ?_⟩
    refine rest_Y hI (by omega) hT14 (by omega) ?_
    refine ⟨by omega, fun w3 => NF (fun h => (h.2.1 hno).2.1 w3), fun w3 => ?_⟩
    refine fragmentOffset_Y hI hp3 hT14 (fun o => ?_)
    refine rest_Y hI (by omega) hT14 (by omega) ?_
    refine ⟨by omega, ?_⟩
    refine ⟨by omega, ?_⟩
    exact ⟨by omega, fun w4 => B110 hx (fun _ => ⟨by omega, w3, by omega⟩), fun w4 => NF (fun h => by have := (h.2.1 hno).2.2; omega)⟩
  refine isExtended_Y hI (by omega) hT14 (fun z hz => ?_)
  refine ⟨by omega, fun w3 => B56 (Or.inl (by omega)), fun w3 => ?_⟩
  refine g4i_Y hI (by omega) (fun x x1 x2 x3 => ?_)
  refine ⟨by omega, fun w4 => B56 (Or.inr (by omega)), fun w4 => NO ?_⟩
  unfold filE
  rw [if_neg (fun h => by omega)]
theorem linkLength_Y (hI : ndC M g N B) (hp : 0 ≤ p) (hT : le g p 2 = 3 ∨ le g p 2 = 10) (hf : p + fxT (le g p 2) ≤ N) (k : ∀ r : Int, lnO N p r (lnkE g N p) → K (some (ti r)) (sh, M, nx, zl)) : fm_Y (d + 3) 174 [.ref 101, .int (Int32.ofInt p)] (sh, M, nx, zl) K := by
  obtain ⟨⟨n1, n2, n3, n4⟩, -, -⟩ := id hI
  have ef : fxT (le g p 2) = 24 := by
    rcases hT with c | c
    · rw [c]; rfl
    · rw [c]; rfl
  have NO : lnkE g N p = -1 → K (some (ti (-1))) (sh, M, nx, zl) := fun h => k (-1) ⟨by omega, Or.inr ⟨h, by omega⟩⟩
  refine m174 [fx 101, ti p] ?_
  refine targetSize_Y hI (by omega) (fun l => ?_)
  have e : lnkE g N p = if 1 ≤ le g (p + 20) 4 ∧ le g (p + 20) 4 ≤ 16384 then (if le g p 2 ≤ 7 then (if p + 24 + le g (p + 20) 4 ≤ N then p + 24 + le g (p + 20) 4 else -1) else (if p + 28 + le g (p + 20) 4 ≤ N ∧ le g (p + 24 + le g (p + 20) 4) 4 = 4294967295 then p + 28 + le g (p + 20) 4 else -1)) else -1 := rfl
  obtain ⟨s, gs⟩ : ∃ s : Int, s = le g (p + 20) 4 := ⟨_, rfl⟩
  rw [← gs] at e l ⊢
  refine ⟨by omega, fun w1 => NO ?_, fun w1 => ?_⟩
  · rw [e, if_neg (by omega)]
  refine ⟨by omega, fun w2 => ?_, fun w2 => NO ?_⟩
  rotate_left
  · rw [e, if_neg (by omega)]
  rw [if_pos (by omega)] at e
  refine isExtended_Y hI (by omega) (by omega) (fun z hz => ?_)
  refine ⟨by omega, fun w3 => ?_, fun w3 => ?_⟩
  · rw [if_neg (by omega)] at e
    refine g4o_Y hI (by omega) (fun x x1 x2 x3 => ?_)
    rw [show p + (24 + s) = p + 24 + s by omega] at x2 x3
    by_cases c : p + 28 + s ≤ N
    · have x4 := x2 (by omega) (by omega)
      refine ⟨by omega, fun w4 => NO ?_, fun w4 => ?_⟩
      · rw [e, if_neg (fun q => by omega)]
      · rw [if_pos (by omega)] at e
        refine k (24 + s + 4) ⟨by omega, Or.inl ?_⟩
        rw [e]
        omega
    · have x4 := x3 (by omega)
      refine ⟨by omega, fun w4 => NO ?_, fun w4 => by omega⟩
      rw [e, if_neg (fun q => by omega)]
  · rw [if_pos (by omega)] at e
    refine k (24 + s) ⟨by omega, ?_⟩
    by_cases c : p + 24 + s ≤ N
    · rw [if_pos c] at e
      exact Or.inl (by omega)
    · rw [if_neg c] at e
      exact Or.inr (by omega)
theorem checkedLength_Y {F : Int} (hI : ndC M g N B) (hp : 0 ≤ p) (hp2 : p + 16 ≤ N) (hF : 0 ≤ F ∧ F ≤ 4096) (hT : 1 ≤ le g p 2 ∧ le g p 2 ≤ 14) (hf : p + fxT (le g p 2) ≤ N) (k : ∀ r : Int, lnO N p r (bodE g N B F p) → K (some (ti r)) (sh, M, nx, zl)) : fm_Y (d + 5) 158 [.ref 101, .int (Int32.ofInt p), .int (Int32.ofInt F)] (sh, M, nx, zl) K := by
  obtain ⟨⟨n1, n2, n3, n4⟩, -, hFX⟩ := id hI
  have fr := fxT_r (le g p 2)
  have ek : (le g p 2 ≤ 7 ∧ kdT (le g p 2) = le g p 2) ∨ (7 < le g p 2 ∧ kdT (le g p 2) = le g p 2 - 7) := by
    unfold kdT
    split <;> omega
  have fr2 : 7 < le g p 2 → 24 ≤ fxT (le g p 2) := by
    intro h
    unfold fxT
    omega
  have e : bodE g N B F p = if kdT (le g p 2) = 1 then dirE g N p else if kdT (le g p 2) = 2 then filE g N B F p else if kdT (le g p 2) = 3 then lnkE g N p else othE g p := rfl
  refine m158 [fx 101, ti p, ti F] ?_
  refine type_Y hI (by omega) hT ?_
  refine kind_Y hI (by omega) hT ?_
  refine ⟨by omega, ?_⟩
  rw [hFX _ (by omega) (by omega)]
  refine ⟨by omega, fun w1 => ?_, fun w1 => ?_⟩
  rotate_left
  · rw [if_pos w1] at e
    rw [e] at k
    exact folderLength_Y hI hp (by omega) hf k
  rw [if_neg w1] at e
  refine ⟨by omega, fun w2 => ?_, fun w2 => ?_⟩
  rotate_left
  · rw [if_pos w2] at e
    rw [e] at k
    exact fileLength_Y hI hp hF (by omega) hf k
  rw [if_neg w2] at e
  refine ⟨by omega, fun w3 => ?_, fun w3 => ?_⟩
  rotate_left
  · rw [if_pos w3] at e
    rw [e] at k
    exact linkLength_Y hI hp (by omega) hf k
  rw [if_neg w3] at e
  have e2 : othE g p = if le g p 2 ≤ 7 ∨ le g (p + fxT (le g p 2) - 4) 4 = 4294967295 then p + fxT (le g p 2) else -1 := rfl
  rw [e2] at e
  refine ⟨by omega, fun w4 => ?_, fun w4 => ?_⟩
  · rw [if_pos (Or.inl w4)] at e
    exact k _ ⟨by omega, Or.inl (by omega)⟩
  · have f2 := fr2 (by omega)
    refine g4i_Y hI (by omega) (fun x x1 x2 x3 => ?_)
    refine ⟨by omega, fun w5 => ?_, fun w5 => ?_⟩
    · rw [if_neg (fun q => by omega)] at e
      exact k (-1) ⟨by omega, Or.inr (by omega)⟩
    · rw [if_pos (by omega)] at e
      exact k _ ⟨by omega, Or.inl (by omega)⟩
theorem headHolds_Y {ids : Int} (hI : ndC M g N B) (hp : 0 ≤ p ∧ p ≤ 200000) (hids : 0 ≤ ids ∧ ids ≤ 65536) (k : ∀ z : Int, (z = 1 ∧ hdP g N ids p ∨ z = 0 ∧ ¬ hdP g N ids p) → K (some (ti z)) (sh, M, nx, zl)) : fm_Y (d + 2) 157 [.ref 101, .int (Int32.ofInt p), .int (Int32.ofInt ids)] (sh, M, nx, zl) K := by
  obtain ⟨⟨n1, n2, n3, n4⟩, -, hFX⟩ := id hI
  have NO : ¬ hdP g N ids p → K (some (ti 0)) (sh, M, nx, zl) := fun h => k 0 (Or.inr ⟨rfl, h⟩)
  refine m157 [fx 101, ti p, ti ids] ?_
  refine two_Y (pr102 sh).1.2.1 (by omega) (by omega) (by omega) ?_
  obtain ⟨T, gT⟩ : ∃ T : Int, T = r2 (M 105) (M 104 1) p := ⟨_, rfl⟩
  have rT : 0 ≤ T ∧ T < 65536 := by
    rw [gT]
    unfold r2
    have a1 := le_nn (M 105) 2 p
    have a2 := le_lt2 (M 105) p
    split <;> omega
  rw [← gT]
  refine ⟨by omega, fun w1 => ⟨Or.inl rfl, NO (fun h => by have := h.1; omega)⟩, fun w1 => ?_⟩
  have eT : T = le g p 2 := by
    rw [gT]
    unfold r2
    rw [if_pos (by omega), le_cg n2 hp.1 2 (by omega)]
  rw [eT]
  refine ⟨by omega, fun w2 => ⟨Or.inl rfl, NO (fun h => by have := h.2.1; omega)⟩, fun w2 => ?_⟩
  refine ⟨by omega, fun w3 => ⟨Or.inl rfl, NO (fun h => by have := h.2.1; omega)⟩, fun w3 => ?_⟩
  have fr := fxT_r (le g p 2)
  refine ⟨by omega, ?_⟩
  rw [hFX _ (by omega) (by omega)]
  refine ⟨by omega, fun w4 => ⟨Or.inl rfl, NO (fun h => by have := h.2.2.1; omega)⟩, fun w4 => ?_⟩
  refine g2i_Y hI (by omega) (fun l2 => ?_)
  refine ⟨by omega, fun w5 => ⟨Or.inl rfl, NO (fun h => by have := h.2.2.2.1; omega)⟩, fun w5 => ?_⟩
  refine g2i_Y hI (by omega) (fun l4 => ?_)
  refine ⟨by omega, fun w6 => ⟨Or.inl rfl, NO (fun h => by have := h.2.2.2.2.1; omega)⟩, fun w6 => ?_⟩
  refine g2i_Y hI (by omega) (fun l6 => ?_)
  exact ⟨by omega, fun w7 => ⟨Or.inl rfl, NO (fun h => by have := h.2.2.2.2.2; omega)⟩, fun w7 => ⟨Or.inr rfl, k 1 (Or.inl ⟨rfl, by omega, by omega, by omega, by omega, by omega, by omega⟩)⟩⟩
end LENS
