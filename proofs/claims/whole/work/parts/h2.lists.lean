/-! MOUNTING: listings; the class opens and walks one -/
def lsz (g : Int → Int) (p : Int) : Int := (if le g p 2 ≤ 7 then le g (p + 24) 2 else le g (p + 20) 4) - 3
def lss (g : Int → Int) (p : Int) : Int := if le g p 2 ≤ 7 then le g (p + 16) 4 else le g (p + 24) 4
def lso (g : Int → Int) (p : Int) : Int := if le g p 2 ≤ 7 then le g (p + 26) 2 else le g (p + 34) 2
/-- a folder's listing lies from b to e -/
def opP (LR LS : List Int) (g : Int → Int) (p b e : Int) : Prop := (lsz g p = 0 ∧ b = 0 ∧ e = 0) ∨ (0 < lsz g p ∧ fl LS LR.length (lss g p) (lso g p) b ∧ e = b + lsz g p ∧ e ≤ LR.length)
/-- all that stage 6 finds, in the class -/
def ltC (M : FM) (IR IS LR LS : List Int) (B ids F n : Int) (pl h : Int → Int) : Prop := (ndC M (lf IR) IR.length B ∧ (M 101 2 = n ∧ 1 ≤ n ∧ n ≤ 4096) ∧ (∀ j : Int, 1 ≤ j → j ≤ n → M 108 j = pl j) ∧ bgV M h n IR.length) ∧ inV (lf IR) IR.length B ids F n pl h ∧ (piV M 102 104 103 IR IS ∧ piV M 109 111 110 LR LS ∧ agr (M 112) (lf LR) LR.length ∧ LR.length ≤ 65536)
theorem ltC_to {M M2 : FM} {IR IS LR LS : List Int} {B ids F n : Int} {pl h : Int → Int} (hL : ltC M IR IS LR LS B ids F n pl h) (e : ∀ c : Nat, (c = 2 ∨ 101 ≤ c ∧ c ≤ 112) → M2 c = M c) : ltC M2 IR IS LR LS B ids F n pl h := by
  obtain ⟨⟨a1, a2, a3, a4⟩, b, c1, c2, c3, c4⟩ := hL
  refine ⟨⟨ndC_to a1 (e 104 (by omega)) (e 105 (by omega)) (e 2 (by omega)) (by rw [e 101 (by omega)]; exact a1.2.1.1), by rw [e 101 (by omega)]; exact a2, by rw [e 108 (by omega)]; exact a3, ?_⟩, b, piV_to c1 (e 102 (by omega)) (e 104 (by omega)) (e 103 (by omega)), piV_to c2 (e 109 (by omega)) (e 111 (by omega)) (e 110 (by omega)), by rw [e 112 (by omega)]; exact c3, c4⟩
  unfold bgV
  rw [e 106 (by omega), e 107 (by omega)]
  exact a4
theorem nd_ok {g : Int → Int} {N B ids F n j : Int} {pl h : Int → Int} (hB : 4096 ≤ B) (hv : inV g N B ids F n pl h) (h1 : 1 ≤ j) (h2 : j ≤ n) : (0 ≤ pl j ∧ pl j < N) ∧ hdP g N ids (pl j) := by
  obtain ⟨a, b, c, e⟩ := hv.1 j h1 h2
  rcases iE_r (g := g) (N := N) (ids := ids) (F := F) hB a with z | z
  · omega
  · exact ⟨⟨a, b⟩, z.2.2.1⟩
theorem kd_dir {T : Int} (h : 1 ≤ T ∧ T ≤ 14) (k : kdT T = 1) : (T = 1 ∧ fxT T = 32) ∨ (T = 8 ∧ fxT T = 40) := by
  have : T = 1 ∨ T = 8 := by
    unfold kdT at k
    split at k <;> omega
  rcases this with c | c
  · exact Or.inl ⟨c, by rw [c]; rfl⟩
  · exact Or.inr ⟨c, by rw [c]; rfl⟩
/-- an opened folder's inode tells a size that is no less than 0 -/
theorem lsz_nn {g : Int → Int} {N B ids F n j : Int} {pl h : Int → Int} (hB : 4096 ≤ B) (hv : inV g N B ids F n pl h) (h1 : 1 ≤ j) (h2 : j ≤ n) (k : kdT (le g (pl j) 2) = 1) : 0 ≤ lsz g (pl j) ∧ lsz g (pl j) ≤ 4294967296 := by
  obtain ⟨a, b, c, e⟩ := hv.1 j h1 h2
  rcases iE_r (g := g) (N := N) (ids := ids) (F := F) hB a with z | z
  · omega
  · have q1 := le_lt2 g (pl j + 24)
    have q2 := le_lt4 g (pl j + 20)
    have eb : bodE g N B F (pl j) = if kdT (le g (pl j) 2) = 1 then dirE g N (pl j) else if kdT (le g (pl j) 2) = 2 then filE g N B F (pl j) else if kdT (le g (pl j) 2) = 3 then lnkE g N (pl j) else othE g (pl j) := rfl
    rw [if_pos k] at eb
    have ne : dirE g N (pl j) ≠ -1 := by omega
    unfold dirE at ne
    unfold lsz
    split at ne
    · split at ne
      · rename_i c1 c2
        rw [if_pos c1]
        omega
      · exact absurd rfl ne
    · split at ne
      · rename_i c1 c2
        rw [if_neg c1]
        omega
      · exact absurd rfl ne
section LISTC
variable {d nx zl : Nat} {K : Option TV → FH → Prop} {sh : Nat → Option Shp} {M : FM} {IR IS LR LS : List Int} {B ids F n : Int} {pl h : Int → Int}
theorem placeC_Y {j : Int} (hL : ltC M IR IS LR LS B ids F n pl h) (hj : 1 ≤ j ∧ j ≤ n) (k : K (some (ti (pl j))) (sh, M, nx, zl)) : fm_Y (d + 1) 185 [.ref 101, .int (Int32.ofInt j)] (sh, M, nx, zl) K := by
  have := hL.1.2.1
  refine m185 [fx 101, ti j] ?_
  refine ⟨by omega, ?_⟩
  rw [hL.1.2.2.1 j hj.1 hj.2]
  exact k
theorem kindOf_Y {j : Int} (hL : ltC M IR IS LR LS B ids F n pl h) (hj : 1 ≤ j ∧ j ≤ n) (k : K (some (ti (kdT (le (lf IR) (pl j) 2)))) (sh, M, nx, zl)) : fm_Y (d + 2) 183 [.ref 101, .int (Int32.ofInt j)] (sh, M, nx, zl) K := by
  have := hL.1.2.1
  obtain ⟨a, b⟩ := nd_ok hL.1.1.2.1.2.1 hL.2.1 hj.1 hj.2
  have b1 := b.1
  refine m183 [fx 101, ti j] ?_
  refine ⟨by omega, ?_⟩
  rw [hL.1.2.2.1 j hj.1 hj.2]
  exact kind_Y hL.1.1 (by omega) b.2.1 k
theorem listingStart_Y {p : Int} {g : Int → Int} {N : Int} (hI : ndC M g N B) (hp : 0 ≤ p ∧ p + 28 ≤ N) (hT : 1 ≤ le g p 2 ∧ le g p 2 ≤ 14) (k : (0 ≤ lss g p ∧ lss g p < 4294967296) → K (some (tj (lss g p))) (sh, M, nx, zl)) : fm_Y (d + 2) 187 [.ref 101, .int (Int32.ofInt p)] (sh, M, nx, zl) K := by
  have e : lss g p = if le g p 2 ≤ 7 then le g (p + 16) 4 else le g (p + 24) 4 := rfl
  rw [e] at k
  refine m187 [fx 101, ti p] ?_
  refine isExtended_Y hI (by omega) hT (fun z hz => ?_)
  refine ⟨by omega, fun w => ?_, fun w => ?_⟩
  · rw [if_pos (by omega)] at k
    refine g4i_Y hI (by omega) (fun x x1 x2 x3 => ?_)
    exact unsig_Y (y := le g (p + 16) 4) x2 (by omega) (k x1)
  · rw [if_neg (by omega)] at k
    refine g4i_Y hI (by omega) (fun x x1 x2 x3 => ?_)
    exact unsig_Y (y := le g (p + 24) 4) x2 (by omega) (k x1)
theorem listingOffset_Y {p : Int} {g : Int → Int} {N : Int} (hI : ndC M g N B) (hp : 0 ≤ p ∧ p + 28 ≤ N) (hp2 : 7 < le g p 2 → p + 36 ≤ N) (hT : 1 ≤ le g p 2 ∧ le g p 2 ≤ 14) (k : (0 ≤ lso g p ∧ lso g p < 65536) → K (some (ti (lso g p))) (sh, M, nx, zl)) : fm_Y (d + 2) 188 [.ref 101, .int (Int32.ofInt p)] (sh, M, nx, zl) K := by
  have e : lso g p = if le g p 2 ≤ 7 then le g (p + 26) 2 else le g (p + 34) 2 := rfl
  rw [e] at k
  refine m188 [fx 101, ti p] ?_
  refine isExtended_Y hI (by omega) hT (fun z hz => ?_)
  refine ⟨by omega, fun w => ?_, fun w => ?_⟩
  · rw [if_pos (by omega)] at k
    exact g2i_Y hI (by omega) k
  · rw [if_neg (by omega)] at k
    have := hp2 (by omega)
    exact g2i_Y hI (by omega) k
theorem open_Y {j : Int} (hL : ltC M IR IS LR LS B ids F n pl h) (hj : 1 ≤ j ∧ j ≤ n) (hk : kdT (le (lf IR) (pl j) 2) = 1)
    (k0 : ∀ M2 : FM, (∀ c : Nat, c ≠ 100 → M2 c = M c) → (∀ b e : Int, ¬ opP LR LS (lf IR) (pl j) b e) → K (some (ti 0)) (sh, M2, nx, zl))
    (k1 : ∀ (M2 : FM) (b e : Int), (∀ c : Nat, c ≠ 100 → M2 c = M c) → opP LR LS (lf IR) (pl j) b e → (M2 100 3 = b ∧ M2 100 4 = b ∧ M2 100 5 = e ∧ M2 100 7 = 0) → K (some (ti 1)) (sh, M2, nx, zl)) : fm_Y (d + 4) 186 [.ref 100, .int (Int32.ofInt j)] (sh, M, nx, zl) K := by
  obtain ⟨a, b⟩ := nd_ok hL.1.1.2.1.2.1 hL.2.1 hj.1 hj.2
  have hT := b.2.1
  have hf := b.2.2.1
  have ed := kd_dir hT hk
  have sz := lsz_nn hL.1.1.2.1.2.1 hL.2.1 hj.1 hj.2 hk
  refine m186 [fx 100, ti j] ?_
  refine placeC_Y hL hj ?_
  obtain ⟨p, gp⟩ : ∃ p : Int, p = pl j := ⟨_, rfl⟩
  rw [← gp] at a b hT hf ed sz hk k0 k1 ⊢
  refine listingSize_Y hL.1.1 (by omega) hT ?_
  have es : lsz (lf IR) p = (if le (lf IR) p 2 ≤ 7 then le (lf IR) (p + 24) 2 else le (lf IR) (p + 20) 4) - 3 := rfl
  rw [← es]
  obtain ⟨M1, gM1⟩ : ∃ M1 : FM, M1 = pq (pq M 100 7 0) 100 3 0 := ⟨_, rfl⟩
  have o1 : ∀ c : Nat, c ≠ 100 → M1 c = M c := fun c hc => by rw [gM1, pq_o _ _ _ hc, pq_o _ _ _ hc]
  have hL1 : ltC M1 IR IS LR LS B ids F n pl h := ltC_to hL (fun c hc => o1 c (by omega))
  have f17 : M1 100 7 = 0 := by rw [gM1, pq_ne _ _ _ _ (by omega), pq_at]
  have f13 : M1 100 3 = 0 := by rw [gM1, pq_at]
  have B99 : ∀ (M2 : FM) (b e : Int) (y5 : Option TV), (∀ c : Nat, c ≠ 100 → M2 c = M c) → M2 100 7 = 0 → M2 100 3 = b → opP LR LS (lf IR) p b e → e = b + lsz (lf IR) p → b186_99 (d + 3) (fW (d + 3) kd186 K) K [some (fx 100), some (ti j), some (ti p), some (tj (lsz (lf IR) p)), none, y5] [] (sh, M2, nx, zl) := by
    intro M2 b e y5 ho h7 h3 hop he
    obtain ⟨R, gR⟩ : ∃ R : FM, R = pq (pq M2 100 4 (M2 100 3)) 100 5 (pq M2 100 4 (M2 100 3) 100 3 + lsz (lf IR) p) := ⟨_, rfl⟩
    have r3 : pq M2 100 4 (M2 100 3) 100 3 = b := by rw [pq_ne _ _ _ _ (by omega)]; exact h3
    have TL : K (some (ti 1)) (sh, R, nx, zl) := by
      refine k1 R b e (fun c hc => ?_) hop ⟨?_, ?_, ?_, ?_⟩
      · rw [gR, pq_o _ _ _ hc, pq_o _ _ _ hc]
        exact ho c hc
      · rw [gR, pq_ne _ _ _ _ (by omega), r3]
      · rw [gR, pq_ne _ _ _ _ (by omega), pq_at, h3]
      · rw [gR, pq_at, r3, he]
      · rw [gR, pq_ne _ _ _ _ (by omega), pq_ne _ _ _ _ (by omega), h7]
    rw [gR] at TL
    exact ⟨Or.inr rfl, TL⟩
  have MAIN : (o_ll 3 (o_lc 0 (o_lcmp .le (b186_99 (d + 3) (fW (d + 3) kd186 K) K) (o_al 0 (o_get 9 1 1 (o_al 0 (o_get 9 0 0 (o_il 2 (o_callv (d + 3) 187 1 10 (b186_46 (d + 3) (fW (d + 3) kd186 K) K))))))))) : FC) [some (fx 100), some (ti j), some (ti p), some (tj (lsz (lf IR) p)), none, none] [] (sh, M1, nx, zl) := by
    refine ⟨by omega, fun w => ?_, fun w => ?_⟩
    · exact B99 M1 0 0 _ o1 f17 f13 (Or.inl ⟨by omega, rfl, rfl⟩) (by omega)
    refine listingStart_Y hL1.1.1 (by omega) hT (fun ls => ?_)
    refine pieceWith_Y (pr109 sh) hL1.2.2.2.1 (by omega) (fun i hi => ?_)
    refine listingOffset_Y hL1.1.1 (by omega) (fun _ => by omega) hT (fun lo => ?_)
    refine flat_Y (pr109 sh) hL1.2.2.2.1 (by omega) (by omega) (fun y hy => ?_)
    obtain ⟨M2, gM2⟩ : ∃ M2 : FM, M2 = pq M1 100 3 y := ⟨_, rfl⟩
    have o2 : ∀ c : Nat, c ≠ 100 → M2 c = M c := fun c hc => by rw [gM2, pq_o _ _ _ hc]; exact o1 c hc
    have f23 : M2 100 3 = y := by rw [gM2, pq_at]
    have f27 : M2 100 7 = 0 := by rw [gM2, pq_ne _ _ _ _ (by omega)]; exact f17
    have s111 : M2 111 1 = LR.length := by rw [o2 111 (by omega)]; exact hL.2.2.2.1.1
    have lr := hL.2.2.2.2.2
    have NO : (∀ x : Int, fl LS LR.length (lss (lf IR) p) (lso (lf IR) p) x → (LR.length : Int) < x + lsz (lf IR) p) → K (some (ti 0)) (sh, M2, nx, zl) := by
      intro q
      refine k0 M2 o2 (fun b e z => ?_)
      rcases z with z | ⟨z1, z2, z3, z4⟩
      · omega
      · have := q b z2
        omega
    have sh2 := hL.2.2.2.1.2.2.2.1
    have UNI : ∀ x : Int, fl LS LR.length (lss (lf IR) p) (lso (lf IR) p) x → x = y := by
      intro x hx
      obtain ⟨i2, j1, j2, j3, j4, j5⟩ := id hx
      rcases hi with q | q
      · exact absurd j2 (q.2 i2 j1.1 j1.2)
      · have e1 : i = i2 := by
          by_cases c : i < i2
          · have := sh2.2.2 i i2 q.1.1 c j1.2
            omega
          · by_cases c2 : i2 < i
            · have := sh2.2.2 i2 i j1.1 c2 q.1.2
              omega
            · omega
        omega
    have TL : (o_al 0 (o_get 9 3 3 (o_if .lt (b186_97 (d + 3) (fW (d + 3) kd186 K) K) (o_ll 3 (o_al 0 (o_get 9 2 2 (o_get 1 1 1 (o_al 0 (o_get 9 3 3 (o_isub (o_i2l (o_lcmp .le (b186_99 (d + 3) (fW (d + 3) kd186 K) K) (b186_97 (d + 3) (fW (d + 3) kd186 K) K)))))))))))) : FC) [some (fx 100), some (ti j), some (ti p), some (tj (lsz (lf IR) p)), none, some (ti i)] [] (sh, M2, nx, zl) := by
      refine ⟨by omega, fun w1 => ⟨Or.inl rfl, NO (fun x hx => ?_)⟩, fun w1 => ⟨by omega, by omega, fun w2 => ?_, fun w2 => ⟨Or.inl rfl, NO (fun x hx => ?_)⟩⟩⟩
      · have := UNI x hx
        obtain ⟨i2, j1, j2, j3, j4, j5⟩ := hx
        omega
      · refine B99 M2 y (y + lsz (lf IR) p) _ o2 f27 f23 (Or.inr ⟨w, ⟨i, by omega, ?_, by omega, by omega, by omega⟩, rfl, by omega⟩) rfl
        rcases hi with q | q
        · omega
        · exact q.2
      · rw [UNI x hx]
        omega
    rw [gM2] at TL
    exact TL
  rw [gM1] at MAIN
  exact MAIN
end LISTC
