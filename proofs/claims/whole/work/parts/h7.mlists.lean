/-! MOUNTING: listings; the reference opens one -/
def mlC (M : FM) (IR IS LR LS : List Int) (B ids F n : Int) (pl h : Int → Int) : Prop := (ndM M (lf IR) IR.length B ids F ∧ (M 168 92 = n ∧ 1 ≤ n ∧ n ≤ 4096) ∧ (∀ j : Int, 1 ≤ j → j ≤ n → M 259 j = pl j) ∧ (∀ y : Int, 0 ≤ y → y < 65536 → M 260 y = h y)) ∧ inV (lf IR) IR.length B ids F n pl h ∧ (shR IR IS ∧ M 238 2 = IS.length ∧ (∀ i : Int, 0 ≤ i → i < IS.length → M 239 i = lf IS i) ∧ IS.length ≤ 8) ∧ ((M 242 1 = LR.length ∧ M 242 2 = LS.length) ∧ (∀ i : Int, 0 ≤ i → i < LS.length → M 243 i = lf LS i ∧ M 244 i = min 8192 (LR.length - 8192 * i)) ∧ (agr (M 245) (lf LR) LR.length ∧ LR.length ≤ 65536) ∧ shR LR LS ∧ LS.length ≤ 8)
def moF (M M2 : FM) : Prop := (∀ c : Nat, c ≠ 168 → M2 c = M c) ∧ ∀ i : Int, (i < 111 ∨ 118 < i) → M2 168 i = M 168 i
theorem mo_refl (M : FM) : moF M M := ⟨fun _ _ => rfl, fun _ _ => rfl⟩
theorem mo_trans {M M2 M3 : FM} (h : moF M M2) (h2 : moF M2 M3) : moF M M3 := ⟨fun c hc => (h2.1 c hc).trans (h.1 c hc), fun i hi => (h2.2 i hi).trans (h.2 i hi)⟩
theorem mo_put (M : FM) {i : Int} (x : Int) (hi : 111 ≤ i ∧ i ≤ 118) : moF M (pq M 168 i x) := ⟨fun c hc => pq_o _ _ _ hc, fun j hj => pq_ne _ _ _ _ (by omega)⟩
theorem mlC_to {M M2 : FM} {IR IS LR LS : List Int} {B ids F n : Int} {pl h : Int → Int} (hL : mlC M IR IS LR LS B ids F n pl h) (e : moF M M2) : mlC M2 IR IS LR LS B ids F n pl h := by
  obtain ⟨e1, e2⟩ := e
  obtain ⟨⟨⟨a1, a2, a3, a4⟩, a5, a6, a7⟩, b, c, f⟩ := hL
  unfold mlC ndM
  rw [e1 238 (by omega), e1 239 (by omega), e1 241 (by omega), e1 242 (by omega), e1 243 (by omega), e1 244 (by omega), e1 245 (by omega), e1 259 (by omega), e1 260 (by omega), e2 92 (by omega), e2 93 (by omega), e2 94 (by omega), e2 95 (by omega)]
  exact ⟨⟨⟨a1, a2, a3, a4⟩, a5, a6, a7⟩, b, c, f⟩
section MLIST
variable {d nx zl : Nat} {K : Option TV → FH → Prop} {sh : Nat → Option Shp} {M : FM} {IR IS LR LS : List Int} {B ids F n : Int} {pl h : Int → Int}
theorem whereIs_Y {j : Int} (hL : mlC M IR IS LR LS B ids F n pl h) (hj : 1 ≤ j ∧ j ≤ n) (k : K (some (ti (pl j))) (sh, M, nx, zl)) : fm_Y (d + 1) 355 [.ref 168, .int (Int32.ofInt j)] (sh, M, nx, zl) K := by
  have := hL.1.2.1
  refine m355 [fx 168, ti j] ?_
  refine ⟨by omega, ?_⟩
  rw [hL.1.2.2.1 j hj.1 hj.2]
  exact k
theorem isDirectory_Y {j : Int} (hL : mlC M IR IS LR LS B ids F n pl h) (hj : 1 ≤ j ∧ j ≤ n) (k : ∀ z : Int, (z = 1 ∧ kdT (le (lf IR) (pl j) 2) = 1 ∨ z = 0 ∧ kdT (le (lf IR) (pl j) 2) ≠ 1) → K (some (ti z)) (sh, M, nx, zl)) : fm_Y (d + 5) 354 [.ref 168, .int (Int32.ofInt j)] (sh, M, nx, zl) K := by
  obtain ⟨a, b⟩ := nd_ok hL.1.1.2.1.2.1 hL.2.1 hj.1 hj.2
  have b1 := b.1
  have kr : 1 ≤ kdT (le (lf IR) (pl j) 2) ∧ kdT (le (lf IR) (pl j) 2) ≤ 7 := by
    have := b.2.1
    unfold kdT
    split <;> omega
  refine m354 [fx 168, ti j] ?_
  refine whereIs_Y hL hj ?_
  refine kindAt_Y hL.1.1 (by omega) b.2.1 ?_
  exact ⟨by omega, fun w => ⟨Or.inl rfl, k 0 (Or.inr ⟨rfl, w⟩)⟩, fun w => ⟨Or.inr rfl, k 1 (Or.inl ⟨rfl, w⟩)⟩⟩
theorem w2_Y {p : Int} (q : Int) (hL : mlC M IR IS LR LS B ids F n pl h) (e : p = q) (hp : 0 ≤ q ∧ q + 2 ≤ LR.length) (k : 0 ≤ le (lf LR) q 2 ∧ le (lf LR) q 2 < 65536 → K (some (tj (le (lf LR) q 2))) (sh, M, nx, zl)) : fm_Y (d + 2) 359 [.ref 168, .int (Int32.ofInt p), .int (Int32.ofInt 2)] (sh, M, nx, zl) K := by
  have := hL.2.2.2.2.2.1.2
  rw [e]
  refine m359 [fx 168, ti q, ti 2] ?_
  exact n2_Y (rr242 sh).1.2.1 (by omega) hL.2.2.2.2.2.1.1 (by omega) hp k
theorem w4_Y {p : Int} (q : Int) (hL : mlC M IR IS LR LS B ids F n pl h) (e : p = q) (hp : 0 ≤ q ∧ q + 4 ≤ LR.length) (k : 0 ≤ le (lf LR) q 4 ∧ le (lf LR) q 4 < 4294967296 → K (some (tj (le (lf LR) q 4))) (sh, M, nx, zl)) : fm_Y (d + 2) 359 [.ref 168, .int (Int32.ofInt p), .int (Int32.ofInt 4)] (sh, M, nx, zl) K := by
  have := hL.2.2.2.2.2.1.2
  rw [e]
  refine m359 [fx 168, ti q, ti 4] ?_
  exact n4_Y (rr242 sh).1.2.1 (by omega) hL.2.2.2.2.2.1.1 (by omega) hp k
theorem listingBytes_Y {j : Int} (hL : mlC M IR IS LR LS B ids F n pl h) (hj : 1 ≤ j ∧ j ≤ n) (hk : kdT (le (lf IR) (pl j) 2) = 1) (k : K (some (tj (lsz (lf IR) (pl j)))) (sh, M, nx, zl)) : fm_Y (d + 4) 358 [.ref 168, .int (Int32.ofInt j)] (sh, M, nx, zl) K := by
  obtain ⟨a, b⟩ := nd_ok hL.1.1.2.1.2.1 hL.2.1 hj.1 hj.2
  have ed := kd_dir b.2.1 hk
  have hf := b.2.2.1
  have es : lsz (lf IR) (pl j) = (if le (lf IR) (pl j) 2 ≤ 7 then le (lf IR) (pl j + 24) 2 else le (lf IR) (pl j + 20) 4) - 3 := rfl
  rw [es] at k
  refine m358 [fx 168, ti j] ?_
  refine whereIs_Y hL hj ?_
  refine whereIs_Y hL hj ?_
  refine typeAt_Y hL.1.1 (by omega) (fun l => ?_)
  refine ⟨by omega, fun w => ?_, fun w => ?_⟩
  · rw [if_neg (by omega)] at k
    exact v4_Y (pl j + 20) hL.1.1 (by omega) (by omega) (fun _ => k)
  · rw [if_pos (by omega)] at k
    exact v2_Y (pl j + 24) hL.1.1 (by omega) (by omega) (fun _ => k)
theorem openListing_Y {j : Int} (hL : mlC M IR IS LR LS B ids F n pl h) (hj : 1 ≤ j ∧ j ≤ n) (hk : kdT (le (lf IR) (pl j) 2) = 1)
    (k0 : ∀ M2 : FM, moF M M2 → (∀ b e : Int, ¬ opP LR LS (lf IR) (pl j) b e) → K (some (ti 0)) (sh, M2, nx, zl))
    (k1 : ∀ (M2 : FM) (b e : Int), moF M M2 → opP LR LS (lf IR) (pl j) b e → (M2 168 111 = b ∧ M2 168 112 = e ∧ M2 168 116 = b ∧ M2 168 117 = 0) → K (some (ti 1)) (sh, M2, nx, zl)) : fm_Y (d + 5) 357 [.ref 168, .int (Int32.ofInt j)] (sh, M, nx, zl) K := by
  obtain ⟨a, b⟩ := nd_ok hL.1.1.2.1.2.1 hL.2.1 hj.1 hj.2
  have ed := kd_dir b.2.1 hk
  have hf := b.2.2.1
  have sz := lsz_nn hL.1.1.2.1.2.1 hL.2.1 hj.1 hj.2 hk
  have n65 := hL.1.1.1.2.2.2
  have lr := hL.2.2.2.2.2.1.2
  have eo : lso (lf IR) (pl j) = if le (lf IR) (pl j) 2 ≤ 7 then le (lf IR) (pl j + 26) 2 else le (lf IR) (pl j + 34) 2 := rfl
  have es : lss (lf IR) (pl j) = if le (lf IR) (pl j) 2 ≤ 7 then le (lf IR) (pl j + 16) 4 else le (lf IR) (pl j + 24) 4 := rfl
  refine m357 [fx 168, ti j] ?_
  refine whereIs_Y hL hj ?_
  refine whereIs_Y hL hj ?_
  obtain ⟨p, gp⟩ : ∃ p : Int, p = pl j := ⟨_, rfl⟩
  rw [← gp] at k0 k1 a b ed hf sz eo es hk ⊢
  -- behind what the inode tells
  have B77 : ∀ (s o y : Int), s = lss (lf IR) p → o = lso (lf IR) p → (0 ≤ s ∧ s < 4294967296) → (0 ≤ o ∧ o < 65536) → b357_77 (d + 4) (fW (d + 4) kd357 K) K [some (fx 168), some (ti j), some (ti (p + 16)), some (ti y), some (tj s), none, none, none, none, none, none] [tj o] (sh, M, nx, zl) := by
    intro s o y hs ho rs ro
    refine listingBytes_Y hL hj (by rw [← gp]; exact hk) ?_
    rw [← gp]
    obtain ⟨m, gm⟩ : ∃ m : Int, m = lsz (lf IR) p := ⟨_, rfl⟩
    rw [← gm]
    rw [← gm] at sz
    obtain ⟨M1, g1⟩ : ∃ M1 : FM, M1 = pq (pq (pq (pq M 168 111 0) 168 112 0) 168 116 0) 168 117 0 := ⟨_, rfl⟩
    have F1 : moF M M1 := by
      rw [g1]
      exact mo_trans (mo_trans (mo_trans (mo_put M 0 (by omega)) (mo_put _ 0 (by omega))) (mo_put _ 0 (by omega))) (mo_put _ 0 (by omega))
    have hL1 := mlC_to hL F1
    have a111 : M1 168 111 = 0 := by rw [g1, pq_ne _ _ _ _ (by omega), pq_ne _ _ _ _ (by omega), pq_ne _ _ _ _ (by omega), pq_at]
    have a112 : M1 168 112 = 0 := by rw [g1, pq_ne _ _ _ _ (by omega), pq_ne _ _ _ _ (by omega), pq_at]
    have a116 : M1 168 116 = 0 := by rw [g1, pq_ne _ _ _ _ (by omega), pq_at]
    have a117 : M1 168 117 = 0 := by rw [g1, pq_at]
    obtain ⟨⟨l1, l2⟩, l3, -, l5, l6⟩ := hL1.2.2.2
    have L : ∀ (G : Nat) (i : Int), ((LS.length : Int) - i).toNat < G → 0 ≤ i → i ≤ LS.length → (∀ q : Int, 0 ≤ q → q < i → 0 < m → ¬ (lf LS q = s ∧ o < min 8192 (LR.length - 8192 * q) ∧ 8192 * q + o + m ≤ LR.length)) → fm_X (d + 4) kd357 109 [some (fx 168), some (ti j), some (ti (p + 16)), some (ti y), some (tj s), none, some (tj o), none, some (tj m), none, some (ti i)] [] (sh, M1, nx, zl) K := by
      intro G
      induction G with
      | zero => intro i q; omega
      | succ G ih =>
        intro i q1 q2 q3 q4
        have B229 : (0 < m → i = LS.length) → b357_229 (d + 4) (fW (d + 4) kd357 K) K [some (fx 168), some (ti j), some (ti (p + 16)), some (ti y), some (tj s), none, some (tj o), none, some (tj m), none, some (ti i)] [] (sh, M1, nx, zl) := by
          intro hi
          refine ⟨by omega, fun w => ⟨Or.inl rfl, k0 M1 F1 (fun b e z => ?_)⟩, fun w => ⟨Or.inr rfl, k1 M1 0 0 F1 (Or.inl ⟨by omega, rfl, rfl⟩) ⟨a111, a112, a116, a117⟩⟩⟩
          rcases z with z | ⟨z1, ⟨x, x1, x2, x3, x4, x5⟩, z3, z4⟩
          · omega
          · have hi2 := hi (by omega)
            refine q4 x x1.1 (by omega) (by omega) ⟨by rw [hs]; exact x2, ?_, ?_⟩
            · rw [ho]
              omega
            · rw [ho, gm]
              omega
        refine s357_109 (d + 4) K _ _ _ ?_
        refine ⟨by omega, fun w => B229 (fun _ => by omega), fun w => ?_⟩
        refine ⟨by omega, fun w2 => B229 (fun _ => by omega), fun w2 => ?_⟩
        obtain ⟨e3, e4⟩ := l3 i q2 (by omega)
        have r3 := l5.2.1 i q2 (by omega)
        have NX : ¬ (lf LS i = s ∧ o < min 8192 (LR.length - 8192 * i) ∧ 8192 * i + o + m ≤ LR.length) → b357_223 (d + 4) (fW (d + 4) kd357 K) K [some (fx 168), some (ti j), some (ti (p + 16)), some (ti y), some (tj s), none, some (tj o), none, some (tj m), none, some (ti i)] [] (sh, M1, nx, zl) := by
          intro no
          refine ih (i + 1) (by omega) (by omega) (by omega) (fun q q0 q1 qm => ?_)
          by_cases c : q < i
          · exact q4 q q0 c qm
          · rw [show q = i by omega]
            exact no
        refine ⟨by omega, ?_⟩
        rw [e3]
        refine ⟨by omega, ?_⟩
        refine ⟨by omega, fun w3 => NX (fun z => w3 z.1), fun w3 => ?_⟩
        refine ⟨by omega, ?_⟩
        rw [e4]
        refine ⟨by omega, ?_⟩
        refine ⟨by omega, fun w4 => NX (fun z => by have := z.2.1; omega), fun w4 => ?_⟩
        refine ⟨by omega, ?_⟩
        refine ⟨by omega, ?_⟩
        refine ⟨by omega, fun w5 => NX (fun z => by have := z.2.2; omega), fun w5 => ?_⟩
        obtain ⟨P1, h1⟩ : ∃ P1 : FM, P1 = pq M1 168 111 (8192 * i + o) := ⟨_, rfl⟩
        obtain ⟨P2, h2⟩ : ∃ P2 : FM, P2 = pq P1 168 112 (P1 168 111 + m) := ⟨_, rfl⟩
        obtain ⟨P3, h3⟩ : ∃ P3 : FM, P3 = pq P2 168 116 (P2 168 111) := ⟨_, rfl⟩
        have p1 : P1 168 111 = 8192 * i + o := by rw [h1, pq_at]
        have p2 : P2 168 111 = 8192 * i + o := by rw [h2, pq_ne _ _ _ _ (by omega)]; exact p1
        have TL : K (some (ti 1)) (sh, P3, nx, zl) := by
          refine k1 P3 (8192 * i + o) (8192 * i + o + m) ?_ (Or.inr ⟨by omega, ⟨i, by omega, by rw [← hs]; exact w3, by rw [← ho]; omega, by rw [← ho], by omega⟩, by rw [gm], by omega⟩) ⟨?_, ?_, ?_, ?_⟩
          · rw [h3, h2, h1]
            exact mo_trans (mo_trans (mo_trans F1 (mo_put _ _ (by omega))) (mo_put _ _ (by omega))) (mo_put _ _ (by omega))
          · rw [h3, pq_ne _ _ _ _ (by omega)]
            exact p2
          · rw [h3, pq_ne _ _ _ _ (by omega), h2, pq_at, p1]
          · rw [h3, pq_at]
            exact p2
          · rw [h3, pq_ne _ _ _ _ (by omega), h2, pq_ne _ _ _ _ (by omega), h1, pq_ne _ _ _ _ (by omega)]
            exact a117
        rw [h3, h2, h1] at TL
        exact ⟨Or.inr rfl, TL⟩
    have T := L _ 0 (Nat.lt_succ_self _) (by omega) (by omega) (fun q q0 q1 => by omega)
    rw [g1] at T
    exact T
  refine typeAt_Y hL.1.1 (by omega) (fun l => ?_)
  refine ⟨by omega, fun w => ?_, fun w => ?_⟩
  · rw [if_neg (by omega)] at eo es
    refine ⟨by omega, fun _ => ?_, fun z => absurd rfl z⟩
    refine v4_Y (p + 24) hL.1.1 (by omega) (by omega) (fun r4 => ?_)
    refine ⟨by omega, fun _ => ?_, fun z => absurd rfl z⟩
    refine v2_Y (p + 34) hL.1.1 (by omega) (by omega) (fun r2 => ?_)
    exact B77 _ _ 0 es.symm eo.symm r4 r2
  · rw [if_pos (by omega)] at eo es
    refine ⟨by omega, fun z => by omega, fun _ => ?_⟩
    refine v4_Y (p + 16) hL.1.1 (by omega) (by omega) (fun r4 => ?_)
    refine ⟨by omega, fun z => by omega, fun _ => ?_⟩
    refine v2_Y (p + 26) hL.1.1 (by omega) (by omega) (fun r2 => ?_)
    exact B77 _ _ 1 es.symm eo.symm r4 r2
end MLIST
