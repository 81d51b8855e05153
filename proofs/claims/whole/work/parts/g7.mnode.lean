/-! MOUNTING: one inode; the reference -/
def ndM (M : FM) (g : Int → Int) (N B ids F : Int) : Prop := (M 238 1 = N ∧ agr (M 241) g N ∧ 0 ≤ N ∧ N ≤ 65536) ∧ (M 168 93 = B ∧ 4096 ≤ B ∧ B ≤ 65536) ∧ (M 168 94 = F ∧ 0 ≤ F ∧ F ≤ 4096) ∧ (M 168 95 = ids ∧ 0 ≤ ids ∧ ids ≤ 65536)
section MNODE
variable {d nx zl : Nat} {K : Option TV → FH → Prop} {sh : Nat → Option Shp} {M : FM} {g : Int → Int} {N B ids F p : Int}
theorem v2_Y (q : Int) (hM : ndM M g N B ids F) (e : p = q) (hp : 0 ≤ q ∧ q + 2 ≤ N) (k : 0 ≤ le g q 2 ∧ le g q 2 < 65536 → K (some (tj (le g q 2))) (sh, M, nx, zl)) : fm_Y (d + 2) 346 [.ref 168, .int (Int32.ofInt p), .int (Int32.ofInt 2)] (sh, M, nx, zl) K := by
  rw [e]
  refine m346 [fx 168, ti q, ti 2] ?_
  exact n2_Y (rr238 sh).1.2.1 (by omega) hM.1.2.1 (by have := hM.1.2.2.2; omega) hp k
theorem v4_Y (q : Int) (hM : ndM M g N B ids F) (e : p = q) (hp : 0 ≤ q ∧ q + 4 ≤ N) (k : 0 ≤ le g q 4 ∧ le g q 4 < 4294967296 → K (some (tj (le g q 4))) (sh, M, nx, zl)) : fm_Y (d + 2) 346 [.ref 168, .int (Int32.ofInt p), .int (Int32.ofInt 4)] (sh, M, nx, zl) K := by
  rw [e]
  refine m346 [fx 168, ti q, ti 4] ?_
  exact n4_Y (rr238 sh).1.2.1 (by omega) hM.1.2.1 (by have := hM.1.2.2.2; omega) hp k
theorem v8_Y (q : Int) (hM : ndM M g N B ids F) (e : p = q) (hp : 0 ≤ q ∧ q + 8 ≤ N) (k : (-9223372036854775808 ≤ s64 (le g q 8) ∧ s64 (le g q 8) ≤ 9223372036854775807) → K (some (tj (s64 (le g q 8)))) (sh, M, nx, zl)) : fm_Y (d + 2) 346 [.ref 168, .int (Int32.ofInt p), .int (Int32.ofInt 8)] (sh, M, nx, zl) K := by
  rw [e]
  refine m346 [fx 168, ti q, ti 8] ?_
  exact n8_Y (rr238 sh).1.2.1 (by omega) hM.1.2.1 (by have := hM.1.2.2.2; omega) hp k
theorem typeAt_Y (hM : ndM M g N B ids F) (hp : 0 ≤ p ∧ p + 2 ≤ N) (k : 0 ≤ le g p 2 ∧ le g p 2 < 65536 → K (some (ti (le g p 2))) (sh, M, nx, zl)) : fm_Y (d + 3) 345 [.ref 168, .int (Int32.ofInt p)] (sh, M, nx, zl) K := by
  refine m345 [fx 168, ti p] ?_
  exact v2_Y p hM rfl hp k
theorem kindAt_Y (hM : ndM M g N B ids F) (hp : 0 ≤ p ∧ p + 2 ≤ N) (hT : 1 ≤ le g p 2 ∧ le g p 2 ≤ 14) (k : K (some (ti (kdT (le g p 2)))) (sh, M, nx, zl)) : fm_Y (d + 4) 351 [.ref 168, .int (Int32.ofInt p)] (sh, M, nx, zl) K := by
  refine m351 [fx 168, ti p] ?_
  refine typeAt_Y hM hp (fun l => ?_)
  refine ⟨by omega, ?_⟩
  have e : (le g p 2 - 1) % 7 + 1 = kdT (le g p 2) := by
    unfold kdT
    split <;> omega
  rw [← e] at k
  exact k
theorem hasRm_Y {n : Int} (hM : ndM M g N B ids F) (hp : -1000000 ≤ p ∧ p ≤ 1000000) (hn : -1000000 ≤ n ∧ n ≤ 35184372088832) (k : ∀ z : Int, (z = 1 ∧ p + n ≤ N ∨ z = 0 ∧ N < p + n) → K (some (ti z)) (sh, M, nx, zl)) : fm_Y (d + 1) 344 [.ref 168, .int (Int32.ofInt p), .long (Int64.ofInt n)] (sh, M, nx, zl) K := by
  obtain ⟨⟨n1, n2, n3, n4⟩, -⟩ := hM
  refine m344 [fx 168, ti p, tj n] ?_
  refine ⟨by omega, ?_⟩
  refine ⟨by omega, ?_⟩
  exact ⟨by omega, fun w => ⟨Or.inl rfl, k 0 (Or.inr ⟨rfl, by omega⟩)⟩, fun w => ⟨Or.inr rfl, k 1 (Or.inl ⟨rfl, by omega⟩)⟩⟩
theorem areOnes_Y (q : Int) (hM : ndM M g N B ids F) (e : p = q) (hp : 0 ≤ q ∧ q + 4 ≤ N) (k : ∀ z : Int, (z = 1 ∧ le g q 4 = 4294967295 ∨ z = 0 ∧ le g q 4 ≠ 4294967295) → K (some (ti z)) (sh, M, nx, zl)) : fm_Y (d + 3) 348 [.ref 168, .int (Int32.ofInt p)] (sh, M, nx, zl) K := by
  refine m348 [fx 168, ti p] ?_
  refine v4_Y q hM e hp (fun l => ?_)
  exact ⟨by omega, fun w => ⟨Or.inl rfl, k 0 (Or.inr ⟨rfl, w⟩)⟩, fun w => ⟨Or.inr rfl, k 1 (Or.inl ⟨rfl, by omega⟩)⟩⟩
theorem directoryEnd_Y {a : Int} (hM : ndM M g N B ids F) (ha : a = p + 16) (hp : 0 ≤ p ∧ p ≤ 65536) (k : ∀ r : Int, (p + 40 ≤ N → r = (if 3 ≤ le g (p + 20) 4 ∧ le g (p + 36) 4 = 4294967295 then iwG g N (le g (p + 32) 2).toNat (p + 40) else -1)) → (N < p + 40 → r = -1) → K (some (ti r)) (sh, M, nx, zl)) : fm_Y (d + 4) 347 [.ref 168, .int (Int32.ofInt a)] (sh, M, nx, zl) K := by
  obtain ⟨⟨n1, n2, n3, n4⟩, -⟩ := id hM
  refine m347 [fx 168, ti a] ?_
  refine hasRm_Y hM (by omega) (by omega) (fun z hz => ?_)
  refine ⟨by omega, fun w => ?_, fun w => ?_⟩
  · exact k (-1) (fun q => by omega) (fun _ => rfl)
  have h40 : p + 40 ≤ N := by omega
  refine v4_Y (p + 20) hM (by omega) (by omega) (fun l => ?_)
  refine ⟨by omega, fun w2 => k (-1) (fun _ => by rw [if_neg (fun q => by omega)]) (fun _ => rfl), fun w2 => ?_⟩
  refine areOnes_Y (p + 36) hM (by omega) (by omega) (fun z hz2 => ?_)
  refine ⟨by omega, fun w3 => ?_, fun w3 => k (-1) (fun _ => by rw [if_neg (fun q => by omega)]) (fun _ => rfl)⟩
  refine v2_Y (p + 32) hM (by omega) (by omega) (fun l2 => ?_)
  have k2 : ∀ r : Int, r = iwG g N (le g (p + 32) 2).toNat (p + 40) → K (some (ti r)) (sh, M, nx, zl) := fun r hr => k r (fun _ => by rw [if_pos (by omega)]; exact hr) (fun q => by omega)
  have L : ∀ (n : Nat) (j e : Int), n ≤ 65535 → j = n → 0 ≤ e → e ≤ N → iwG g N (le g (p + 32) 2).toNat (p + 40) = iwG g N n e → fm_X (d + 3) kd347 54 [some (fx 168), some (ti a), some (ti e), some (tj j), none] [] (sh, M, nx, zl) K := by
    intro n
    induction n with
    | zero =>
      intro j e hn hj h0 h1 hE
      refine s347_54 (d + 3) K _ _ _ ?_
      exact ⟨by omega, fun w => k2 e hE.symm, fun w => by omega⟩
    | succ n ih =>
      intro j e hn hj h0 h1 hE
      have er : iwG g N (n + 1) e = if e + 12 ≤ N ∧ le g (e + 8) 4 ≤ 255 ∧ e + 13 + le g (e + 8) 4 ≤ N then iwG g N n (e + 13 + le g (e + 8) 4) else -1 := rfl
      rw [er] at hE
      refine s347_54 (d + 3) K _ _ _ ?_
      refine ⟨by omega, fun w => by omega, fun w => ?_⟩
      refine hasRm_Y hM (by omega) (by omega) (fun z hz => ?_)
      refine ⟨by omega, fun w1 => k2 (-1) (by rw [hE, if_neg (fun q => by omega)]), fun w1 => ?_⟩
      refine v4_Y (e + 8) hM rfl (by omega) (fun l3 => ?_)
      refine ⟨by omega, fun w2 => k2 (-1) (by rw [hE, if_neg (fun q => by omega)]), fun w2 => ?_⟩
      refine v4_Y (e + 8) hM rfl (by omega) (fun _ => ?_)
      refine hasRm_Y hM (by omega) (by omega) (fun y hy => ?_)
      refine ⟨by omega, fun w3 => ?_, fun w3 => k2 (-1) (by rw [hE, if_neg (fun q => by omega)])⟩
      refine v4_Y (e + 8) hM rfl (by omega) (fun _ => ?_)
      rw [if_pos (by omega)] at hE
      exact ih _ _ (by omega) (by omega) (by omega) (by omega) hE
  have T := L (le g (p + 32) 2).toNat (le g (p + 32) 2) (p + 40) (by omega) (by omega) (by omega) h40 rfl
  rw [show p + 40 = a + 24 by omega] at T
  exact T
theorem fileEnd_Y {n f o a : Int} (hM : ndM M g N B ids F) (hn : -9223372036854775808 ≤ n ∧ n ≤ 9223372036854775807) (hf : 0 ≤ f ∧ f < 4294967296) (ho : 0 ≤ o ∧ o < 4294967296) (ha : 0 ≤ a ∧ a ≤ N) (k : K (some (ti (flE g N B F n f o a))) (sh, M, nx, zl)) : fm_Y (d + 3) 349 [.ref 168, .long (Int64.ofInt n), .long (Int64.ofInt f), .long (Int64.ofInt o), .int (Int32.ofInt a)] (sh, M, nx, zl) K := by
  obtain ⟨⟨n1, n2, n3, n4⟩, ⟨b1, b2, b3⟩, ⟨f1, f2, f3⟩, -⟩ := id hM
  have NF : ¬ flP g N B F n f o a → K (some (ti (-1))) (sh, M, nx, zl) := fun h => by
    have e : flE g N B F n f o a = -1 := cif_neg h
    rw [e] at k
    exact k
  refine m349 [fx 168, tj n, tj f, tj o, ti a] ?_
  refine ⟨by omega, fun w1 => NF (fun h => by have := h.1.1; omega), fun w1 => ?_⟩
  refine ⟨by omega, fun w2 => ?_, fun w2 => NF (fun h => by have := h.1.2; omega)⟩
  refine ⟨by omega, ?_⟩
  refine ⟨by omega, ?_⟩
  rw [b1]
  have mr := mod_r n b2
  have dr := div_r n b2 (by omega)
  have ebc : bcN B n f = n / B + (if f = 4294967295 ∧ 0 < n % B then 1 else 0) := rfl
  have B102 : ∀ (u x : Int), n / B + u = bcN B n f → (u = 0 ∨ u = 1) → (f ≠ 4294967295 → f < F ∧ n % B ≠ 0 ∧ o + n % B ≤ B) → b349_102 (d + 2) (fW (d + 2) kd349 K) K [some (fx 168), some (tj n), none, some (tj f), none, some (tj o), none, some (ti a), some (tj (n % B)), none, some (ti x), none, none, none, none, none] [tj u, tj (n / B)] (sh, M, nx, zl) := by
    intro u x hu hu2 hfr
    obtain ⟨bc, gbc⟩ : ∃ bc : Int, bc = n / B + u := ⟨_, rfl⟩
    have ebc2 : bc = bcN B n f := by rw [gbc, hu]
    refine hasRm_Y hM (by omega) (by omega) (fun z hz => ?_)
    rw [← gbc] at hz ⊢
    refine ⟨by omega, fun w => ?_, fun w => NF (fun h => by have := h.2.2.1; omega)⟩
    have L : ∀ (G : Nat) (i : Int) (y14 y15 : Option TV), (bc - i).toNat < G → 0 ≤ i → i ≤ bc → (∀ j : Int, 0 ≤ j → j < i → bkP B (le g (a + 4 * j) 4)) → fm_X (d + 2) kd349 125 [some (fx 168), some (tj n), none, some (tj f), none, some (tj o), none, some (ti a), some (tj (n % B)), none, some (ti x), some (tj bc), none, some (ti i), y14, y15] [] (sh, M, nx, zl) K := by
      intro G
      induction G with
      | zero => intro i y14 y15 h; omega
      | succ G ih =>
        intro i y14 y15 h1 h2 h3 h4
        refine s349_125 (d + 2) K _ _ _ ?_
        refine ⟨by omega, ?_⟩
        refine ⟨by omega, fun w1 => ?_, fun w1 => ?_⟩
        · have P : flP g N B F n f o a := ⟨by omega, hfr, by rw [← ebc2]; omega, fun j j0 j1 => h4 j j0 (by rw [← ebc2] at j1; omega)⟩
          have e : flE g N B F n f o a = a + 4 * bc := by
            unfold flE
            rw [cif_pos P, ← ebc2]
          rw [e] at k
          exact k
        have NB : ¬ bkP B (le g (a + 4 * i) 4) → K (some (ti (-1))) (sh, M, nx, zl) := fun h => NF (fun q => h (q.2.2.2 i h2 (by omega)))
        refine v4_Y (a + 4 * i) hM rfl (by omega) (fun l => ?_)
        refine ⟨by omega, fun w2 => NB (fun q => by have := q.1; omega), fun w2 => ?_⟩
        refine ⟨by omega, ?_⟩
        refine ⟨by omega, fun w3 => NB (fun q => by have := q.2.1; omega), fun w3 => ?_⟩
        refine ⟨by omega, fun w4 => ?_, fun w4 => NB (fun q => by have := q.2.2; omega)⟩
        refine ih (i + 1) _ _ (by omega) (by omega) (by omega) (fun j j0 j1 => ?_)
        by_cases c : j < i
        · exact h4 j j0 c
        · have ej : j = i := by omega
          rw [ej]
          exact ⟨by omega, by omega, by omega⟩
    exact L _ 0 _ _ (Nat.lt_succ_self _) (by omega) (by omega) (fun j j0 j1 => by omega)
  have B78 : ∀ x : Int, (x = 0 ∨ x = 1) → (x = 1 ↔ f = 4294967295) → (f ≠ 4294967295 → f < F ∧ n % B ≠ 0 ∧ o + n % B ≤ B) → b349_78 (d + 2) (fW (d + 2) kd349 K) K [some (fx 168), some (tj n), none, some (tj f), none, some (tj o), none, some (ti a), some (tj (n % B)), none, some (ti x), none, none, none, none, none] [] (sh, M, nx, zl) := by
    intro x hx ex hfr
    refine ⟨by omega, ?_⟩
    refine ⟨by omega, ?_⟩
    rw [b1]
    refine ⟨by omega, fun w => B102 0 x (by rw [ebc, if_neg (fun q => by omega)]) (Or.inl rfl) hfr, fun w => ?_⟩
    exact ⟨by omega, fun w3 => B102 0 x (by rw [ebc, if_neg (fun q => by omega)]) (Or.inl rfl) hfr, fun w3 => B102 1 x (by rw [ebc, if_pos (by omega)]) (Or.inr rfl) hfr⟩
  have B38 : ∀ x : Int, (x = 0 ∨ x = 1) → (x = 1 ↔ f = 4294967295) → b349_38 (d + 2) (fW (d + 2) kd349 K) K [some (fx 168), some (tj n), none, some (tj f), none, some (tj o), none, some (ti a), some (tj (n % B)), none, none, none, none, none, none, none] [ti x] (sh, M, nx, zl) := by
    intro x hx ex
    refine ⟨by omega, fun w => B78 x hx ex (fun q => by omega), fun w => ?_⟩
    have hno : f ≠ 4294967295 := by omega
    refine ⟨by omega, ?_⟩
    refine ⟨by omega, fun w3 => NF (fun h => by have := (h.2.1 hno).1; omega), fun w3 => ?_⟩
    refine ⟨by omega, fun w4 => NF (fun h => (h.2.1 hno).2.1 w4), fun w4 => ?_⟩
    refine ⟨by omega, ?_⟩
    exact ⟨by omega, fun w5 => B78 x hx ex (fun _ => ⟨by omega, w4, by omega⟩), fun w5 => NF (fun h => by have := (h.2.1 hno).2.2; omega)⟩
  exact ⟨by omega, fun w3 => B38 0 (Or.inl rfl) ⟨fun q => by omega, fun q => absurd q w3⟩, fun w3 => B38 1 (Or.inr rfl) ⟨fun _ => by omega, fun _ => rfl⟩⟩
theorem linkEnd_Y {a y : Int} (hM : ndM M g N B ids F) (ha : a = p + 16) (hp : 0 ≤ p ∧ p ≤ 65536) (hy : y = 0 ∧ le g p 2 ≤ 7 ∨ y = 1 ∧ 7 < le g p 2) (k : ∀ r : Int, (p + 24 ≤ N → r = lnkE g N p) → (N < p + 24 → r = -1) → K (some (ti r)) (sh, M, nx, zl)) : fm_Y (d + 4) 350 [.ref 168, .int (Int32.ofInt a), .int (Int32.ofInt y)] (sh, M, nx, zl) K := by
  obtain ⟨⟨n1, n2, n3, n4⟩, -⟩ := id hM
  have e : lnkE g N p = if 1 ≤ le g (p + 20) 4 ∧ le g (p + 20) 4 ≤ 16384 then (if le g p 2 ≤ 7 then (if p + 24 + le g (p + 20) 4 ≤ N then p + 24 + le g (p + 20) 4 else -1) else (if p + 28 + le g (p + 20) 4 ≤ N ∧ le g (p + 24 + le g (p + 20) 4) 4 = 4294967295 then p + 28 + le g (p + 20) 4 else -1)) else -1 := rfl
  refine m350 [fx 168, ti a, ti y] ?_
  refine hasRm_Y hM (by omega) (by omega) (fun z hz => ?_)
  refine ⟨by omega, fun w => ?_, fun w => k (-1) (fun q => by omega) (fun _ => rfl)⟩
  have h24 : p + 24 ≤ N := by omega
  have k2 : ∀ r : Int, r = lnkE g N p → K (some (ti r)) (sh, M, nx, zl) := fun r hr => k r (fun _ => hr) (fun q => by omega)
  refine v4_Y (p + 20) hM (by omega) (by omega) (fun l => ?_)
  obtain ⟨s, gs⟩ : ∃ s : Int, s = le g (p + 20) 4 := ⟨_, rfl⟩
  rw [← gs] at e l ⊢
  have B33 : ∀ b : Int, (b = 8 ∧ y = 0 ∨ b = 12 ∧ y = 1) → b350_33 (d + 3) (fW (d + 3) kd350 K) K [some (fx 168), some (ti a), some (ti y), some (tj s), none, none, none] [ti b] (sh, M, nx, zl) := by
    intro b hb
    refine ⟨by omega, fun w1 => k2 (-1) (by rw [e, if_neg (by omega)]), fun w1 => ?_⟩
    refine ⟨by omega, fun w2 => k2 (-1) (by rw [e, if_neg (by omega)]), fun w2 => ?_⟩
    rw [if_pos (by omega)] at e
    refine ⟨by omega, ?_⟩
    refine hasRm_Y hM (by omega) (by omega) (fun z hz => ?_)
    refine ⟨by omega, fun w3 => ?_, fun w3 => ?_⟩
    · refine ⟨by omega, fun w4 => ?_, fun w4 => ?_⟩
      · rw [if_pos (by omega), if_pos (by omega)] at e
        refine k2 (a + 8 + s) ?_
        rw [e]
        omega
      · rw [if_neg (by omega)] at e
        refine areOnes_Y (p + 24 + s) hM (by omega) (by omega) (fun z hz => ?_)
        refine ⟨by omega, fun w5 => k2 (-1) (by rw [e, if_neg (fun q => by omega)]), fun w5 => ?_⟩
        rw [if_pos (by omega)] at e
        refine k2 (a + 8 + s + 4) ?_
        rw [e]
        omega
    · refine k2 (-1) ?_
      by_cases c : le g p 2 ≤ 7
      · rw [e, if_pos c, if_neg (by omega)]
      · rw [e, if_neg c, if_neg (fun q => by omega)]
  exact ⟨by omega, fun w2 => B33 8 (by omega), fun w2 => B33 12 (by omega)⟩
end MNODE
