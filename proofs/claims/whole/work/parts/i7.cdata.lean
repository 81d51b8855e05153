/-! MOUNTING: the data; the class -/
def s8C (M : FM) (IR IS LR LS : List Int) (B ids F n : Int) (pl h f fg : Int → Int) (s A : Int) : Prop := ltC M IR IS LR LS B ids F n pl h ∧ (M 97 9 = B ∧ M 97 10 = n ∧ M 97 11 = F ∧ M 97 15 = A) ∧ (M 98 1 = s ∧ agr (M 99) f s ∧ (0 ≤ A ∧ A ≤ s ∧ s ≤ 131072)) ∧ ((0 ≤ F ∧ F ≤ 4096) ∧ (0 < F → M 119 1 = 16 * F ∧ agr (M 120) fg (16 * F)) ∧ frP B A fg F) ∧ uFx M
def d8F (M M2 : FM) : Prop := ∀ c : Nat, (c < 129 ∨ 150 < c) → c ≠ 165 → c ≠ 166 → c ≠ 167 → M2 c = M c
theorem d8_refl (M : FM) : d8F M M := fun _ _ _ _ _ => rfl
theorem d8_trans {M M2 M3 : FM} (h : d8F M M2) (h2 : d8F M2 M3) : d8F M M3 := fun c a b e g => (h2 c a b e g).trans (h c a b e g)
theorem s8C_to {M M2 : FM} {IR IS LR LS : List Int} {B ids F n : Int} {pl h f fg : Int → Int} {s A : Int} (h8 : s8C M IR IS LR LS B ids F n pl h f fg s A) (e : d8F M M2) : s8C M2 IR IS LR LS B ids F n pl h f fg s A := by
  obtain ⟨a1, a2, a3, a4, a5⟩ := h8
  refine ⟨ltC_to a1 (fun c hc => e c (by omega) (by omega) (by omega) (by omega)), ?_, ?_, ?_, uFx_to a5 (fun c hc => e c (by omega) (by omega) (by omega) (by omega))⟩
  · rw [e 97 (by omega) (by omega) (by omega) (by omega)]
    exact a2
  · rw [e 98 (by omega) (by omega) (by omega) (by omega), e 99 (by omega) (by omega) (by omega) (by omega)]
    exact a3
  · rw [e 119 (by omega) (by omega) (by omega) (by omega), e 120 (by omega) (by omega) (by omega) (by omega)]
    exact a4
section CDATA
variable {d nx zl : Nat} {K : Option TV → FH → Prop} {sh : Nat → Option Shp} {M : FM} {IR IS LR LS : List Int} {B ids F n s A : Int} {pl h f fg : Int → Int}
theorem ldB_Y {a x : Int} (h8 : s8C M IR IS LR LS B ids F n pl h f fg s A) (hx : 0 ≤ x ∧ x < 33554432) (hm : x % 16777216 ≤ B) (ha : 0 ≤ a ∧ a + x % 16777216 ≤ A) (k : ∀ M2 : FM, d8F M M2 → M2 167 = M 167 → (∀ o : List Int, bdS f B a x = some o → sl (M2 166) 0 o.length = o) → (-1 ≤ rvO (bdS f B a x) ∧ rvO (bdS f B a x) ≤ B) → K (some (ti (rvO (bdS f B a x)))) (sh, M2, nx, zl)) : fm_Y (d + 5) 205 [.ref 97, .int (Int32.ofInt a), .int (Int32.ofInt x)] (sh, M, nx, zl) K := by
  obtain ⟨a1, ⟨b9, b10, b11, b15⟩, ⟨a3, a4, a6⟩, -, a5⟩ := h8
  have hB := a1.1.1.2.1
  have rr := bdS_r (f := f) (a := a) (by omega) hm
  refine m205 [fx 97, ti a, ti x] ?_
  refine ⟨by omega, fun w => ?_, fun w => ?_⟩
  · have e : bdS f B a x = some (sl f a (x % 16777216).toNat) := if_pos (by omega)
    refine ⟨.byte, 131072, 65536, ⟨rfl, rfl⟩, ⟨by omega, by omega, by omega, by omega, by omega, by omega, by omega⟩, ⟨trivial, by decide, by omega⟩, ?_⟩
    have T := k (um M 166 (cpf (M 99) (M 166) a 0 (x % 16777216))) (fun c _ _ c2 _ => um_ne c2) (um_ne (by omega)) (fun o ho => ?_) rr
    · rw [e] at T
      have T' : K (some (ti ((sl f a (x % 16777216).toNat).length : Int))) (sh, um M 166 (cpf (M 99) (M 166) a 0 (x % 16777216)), nx, zl) := T
      rw [sl_len, show (((x % 16777216).toNat : Nat) : Int) = x % 16777216 by omega] at T'
      exact T'
    · rw [e] at ho
      injection ho with ho
      rw [← ho, sl_len, um_at, sl_cpf (by omega)]
      exact sl_agr a4 (by omega) (by omega)
  · have e : bdS f B a x = unS f a (x % 16777216) B := if_neg (by omega)
    have cg : unS (M 99) a (x % 16777216) B = unS f a (x % 16777216) B := unS_cg a4 (by omega) (by omega)
    refine unpack_Y (d := d) (nS := 131072) (nM := 65536) rfl rfl (by omega) (by omega) (by omega) (by omega) (by omega) (by omega) (by omega) a5.1 a5.2.1 a5.2.2 (fun hu M3 hF => ?_) (fun o hu M3 hF hsl => ?_)
    · rw [b9, cg, ← e] at hu
      have T := k M3 (fun c c1 c2 c3 c4 => hF.1 c (by omega) (by omega) (by omega) c2) (hF.1 167 (by omega) (by omega) (by omega) (by omega)) (fun o ho => by rw [hu] at ho; cases ho) rr
      rw [hu] at T
      exact T
    · rw [b9, cg, ← e] at hu
      have T := k M3 (fun c c1 c2 c3 c4 => hF.1 c (by omega) (by omega) (by omega) c2) (hF.1 167 (by omega) (by omega) (by omega) (by omega)) (fun o2 ho => by
        rw [hu] at ho
        injection ho with ho
        rw [← ho]
        exact hsl) rr
      rw [hu] at T
      exact T
theorem loadFragment_Y {i : Int} (h8 : s8C M IR IS LR LS B ids F n pl h f fg s A) (hi : 0 ≤ i ∧ i < F) (k : ∀ M2 : FM, d8F M M2 → M2 167 = M 167 → (∀ o : List Int, bdS f B (s64 (le fg (16 * i) 8)) (le fg (16 * i + 8) 4) = some o → sl (M2 166) 0 o.length = o) → (-1 ≤ fsF f B fg i ∧ fsF f B fg i ≤ B) → K (some (ti (fsF f B fg i))) (sh, M2, nx, zl)) : fm_Y (d + 6) 204 [.ref 97, .int (Int32.ofInt i)] (sh, M, nx, zl) K := by
  obtain ⟨a1, a2, a3, ⟨f1, f2, f3⟩, a5⟩ := id h8
  obtain ⟨g1, g2⟩ := f2 (by omega)
  obtain ⟨q1, q2, q3⟩ := f3 i hi.1 hi.2
  have hr := (pr117 sh).1.2.1
  refine m204 [fx 97, ti i] ?_
  refine g8_Y hr g1 g2 (by omega) (by omega) (fun b8 => ?_)
  refine g4_Y hr g1 g2 (by omega) (by omega) (fun x x1 x2 x3 => ?_)
  have ex : x = le fg (16 * i + 8) 4 := by omega
  rw [ex]
  exact ldB_Y h8 (by omega) (by omega) (by omega) k
theorem fragmentsUnpack_Y (h8 : s8C M IR IS LR LS B ids F n pl h f fg s A) (k0 : ∀ M2 : FM, d8F M M2 → ¬ (∀ i : Int, 0 ≤ i → i < F → 0 ≤ fsF f B fg i) → K (some (ti 0)) (sh, M2, nx, zl)) (k1 : ∀ M2 : FM, d8F M M2 → (∀ i : Int, 0 ≤ i → i < F → 0 ≤ fsF f B fg i) → (∀ i : Int, 0 ≤ i → i < F → M2 167 i = fsF f B fg i) → K (some (ti 1)) (sh, M2, nx, zl)) : fm_Y (d + 7) 203 [.ref 97] (sh, M, nx, zl) K := by
  have Fr := h8.2.2.2.1.1
  have hB := h8.1.1.1.2.1
  refine m203 [fx 97] ?_
  have L : ∀ (G : Nat) (i : Int) (M1 : FM), (F - i).toNat < G → 0 ≤ i → i ≤ F → d8F M M1 → (∀ j : Int, 0 ≤ j → j < i → 0 ≤ fsF f B fg j) → (∀ j : Int, 0 ≤ j → j < i → M1 167 j = fsF f B fg j) → fm_X (d + 6) kd203 2 [some (fx 97), some (ti i)] [] (sh, M1, nx, zl) K := by
    intro G
    induction G with
    | zero => intro i M1 q; omega
    | succ G ih =>
      intro i M1 q1 q2 q3 F1 ok kp
      have h81 := s8C_to h8 F1
      have e11 := h81.2.1.2.2.1
      refine s203_2 (d + 6) K _ _ _ ?_
      refine ⟨by omega, fun w => ⟨Or.inr rfl, k1 M1 F1 (fun j j0 j1 => ok j j0 (by omega)) (fun j j0 j1 => kp j j0 (by omega))⟩, fun w => ?_⟩
      refine loadFragment_Y h81 (by omega) (fun M2 F2 e67 _ fr => ?_)
      refine ⟨by omega, ?_⟩
      obtain ⟨P, gP⟩ : ∃ P : FM, P = pq M2 167 i (fsF f B fg i) := ⟨_, rfl⟩
      have FP : d8F M P := by
        rw [gP]
        exact fun c c1 c2 c3 c4 => (pq_o _ _ _ c4).trans ((F2 c c1 c2 c3 c4).trans (F1 c c1 c2 c3 c4))
      have pi : P 167 i = fsF f B fg i := by rw [gP, pq_at]
      have T1 : (o_al 0 (o_get 8 8 8 (o_il 1 (o_iald (o_if .ge (o_inc 1 1 (fW (d + 6) kd203 K 2)) (o_ic 0 (o_zret K)))))) : FC) [some (fx 97), some (ti i)] [] (sh, P, nx, zl) := by
        refine ⟨by omega, ?_⟩
        rw [pi]
        refine ⟨by omega, fun w2 => ?_, fun w2 => ⟨Or.inl rfl, k0 P FP (fun q => by have := q i q2 (by omega); omega)⟩⟩
        refine ih (i + 1) P (by omega) (by omega) (by omega) FP (fun j j0 j1 => ?_) (fun j j0 j1 => ?_)
        · by_cases c : j < i
          · exact ok j j0 c
          · rw [show j = i by omega]
            omega
        · by_cases c : j = i
          · rw [c]
            exact pi
          · rw [gP, pq_ne _ _ _ _ c, e67]
            exact kp j j0 (by omega)
      rw [gP] at T1
      exact T1
  exact L _ 0 M (Nat.lt_succ_self _) (by omega) (by omega) (d8_refl M) (fun j j0 j1 => by omega) (fun j j0 j1 => by omega)
theorem blockBytes_Y {p i : Int} {g : Int → Int} {N : Int} (hI : ndC M g N B) (hp : 0 ≤ p ∧ p + 32 ≤ N) (hT : 1 ≤ le g p 2 ∧ le g p 2 ≤ 14) (hz : 0 ≤ fSz g p ∧ fSz g p < 1099511627776) (hi : 0 ≤ i ∧ i ≤ 65536) (hk : i < bkC B g p) (k : (0 ≤ bbN B g p i ∧ bbN B g p i ≤ B) → K (some (ti (bbN B g p i))) (sh, M, nx, zl)) : fm_Y (d + 3) 202 [.ref 101, .int (Int32.ofInt p), .int (Int32.ofInt i)] (sh, M, nx, zl) K := by
  obtain ⟨b1, b2, b3⟩ := hI.2.1
  have bm := bc_mul b2 hz.1 hi.1 hk
  have br := bb_r b2 hz.1 hi.1 hk
  refine m202 [fx 101, ti p, ti i] ?_
  refine ⟨by omega, ?_⟩
  refine fileSize_Y hI hp hT (fun sr => ?_)
  refine ⟨by omega, ?_⟩
  refine ⟨by omega, ?_⟩
  rw [b1]
  refine ⟨by omega, ?_⟩
  exact k br
theorem fileBegin_Y {p : Int} {g : Int → Int} {N : Int} (hI : ndC M g N B) (hp : 0 ≤ p ∧ p + 32 ≤ N) (hT : 1 ≤ le g p 2 ∧ le g p 2 ≤ 14) (k : (-9223372036854775808 ≤ fBg g p ∧ fBg g p ≤ 9223372036854775807) → K (some (tj (fBg g p))) (sh, M, nx, zl)) : fm_Y (d + 2) 208 [.ref 101, .int (Int32.ofInt p)] (sh, M, nx, zl) K := by
  have e : fBg g p = if le g p 2 ≤ 7 then le g (p + 16) 4 else s64 (le g (p + 16) 8) := rfl
  refine m208 [fx 101, ti p] ?_
  refine isExtended_Y hI (by omega) hT (fun z hz => ?_)
  rcases hz.symm with ⟨z1, z2⟩ | ⟨z1, z2⟩
  · rw [z1]
    rw [if_pos z2] at e
    rw [e] at k
    refine ⟨by omega, fun _ => ?_, fun q => absurd rfl q⟩
    refine g4i_Y hI (by omega) (fun x x1 x2 x3 => ?_)
    exact unsig_Y (y := le g (p + 16) 4) x2 (by omega) (k (by omega))
  · rw [z1]
    rw [if_neg (by omega)] at e
    rw [e] at k
    refine ⟨by omega, fun q => by omega, fun _ => ?_⟩
    exact g8i_Y hI (by omega) k
theorem dataFits_Y (h8 : s8C M IR IS LR LS B ids F n pl h f fg s A) (k : ∀ z : Int, (z = 1 ∧ saD B F (lf IR) pl (kdF IR pl) n.toNat ≤ 4194304 ∨ z = 0 ∧ ¬ saD B F (lf IR) pl (kdF IR pl) n.toNat ≤ 4194304) → K (some (ti z)) (sh, M, nx, zl)) : fm_Y (d + 4) 201 [.ref 97] (sh, M, nx, zl) K := by
  obtain ⟨hL, ⟨b9, b10, b11, b15⟩, a3, a4, a5⟩ := id h8
  have nr := hL.1.2.1
  have hB := hL.1.1.2.1
  have n65 := hL.1.1.1.2.2.2
  have Fr := a4.1
  have hv := hL.2.1
  have sr := saD_r (F := F) ⟨hB.2.1, hB.2.2⟩ Fr n65 hv
  refine m201 [fx 97] ?_
  refine ⟨by omega, ?_⟩
  refine ⟨by omega, ?_⟩
  rw [b11, b9]
  have L : ∀ (G : Nat) (m : Nat) (j : Int) (y4 y5 y6 : Option TV), (n + 1 - j).toNat < G → j = m + 1 → j ≤ n + 1 → fm_X (d + 3) kd201 14 [some (fx 97), some (tj (saD B F (lf IR) pl (kdF IR pl) m)), none, some (ti j), y4, y5, y6] [] (sh, M, nx, zl) K := by
    intro G
    induction G with
    | zero => intro m j y4 y5 y6 q; omega
    | succ G ih =>
      intro m j y4 y5 y6 q1 q2 q3
      have srm : 0 ≤ saD B F (lf IR) pl (kdF IR pl) m ∧ saD B F (lf IR) pl (kdF IR pl) m ≤ 268435456 + 1073741824 * m := sr m (by omega)
      refine s201_14 (d + 3) K _ _ _ ?_
      refine ⟨by omega, fun w => ?_, fun w => ?_⟩
      · have em : n.toNat = m := by omega
        rw [em] at k
        exact ⟨by omega, fun w2 => ⟨Or.inl rfl, k 0 (Or.inr ⟨rfl, by omega⟩)⟩, fun w2 => ⟨Or.inr rfl, k 1 (Or.inl ⟨rfl, by omega⟩)⟩⟩
      obtain ⟨ap, hd0⟩ := nd_ok hB.2.1 hv (show 1 ≤ j by omega) (show j ≤ n by omega)
      have hT := hd0.2.1
      have kr : 1 ≤ kdT (le (lf IR) (pl j) 2) ∧ kdT (le (lf IR) (pl j) 2) ≤ 7 := by
        unfold kdT
        split <;> omega
      have hf := hd0.2.2.1
      have fg2 := fx_ge hT
      have ej : ((m : Int) + 1) = j := by omega
      have sm : saD B F (lf IR) pl (kdF IR pl) (m + 1) = if kdF IR pl (m + 1) = 2 then saD B F (lf IR) pl (kdF IR pl) m + sbF B (lf IR) (pl (m + 1)) (bkC B (lf IR) (pl (m + 1))).toNat else saD B F (lf IR) pl (kdF IR pl) m := rfl
      rw [ej] at sm
      refine placeC_Y hL (by omega) ?_
      refine kind_Y hL.1.1 (by omega) hT ?_
      refine ⟨by omega, fun w2 => ?_, fun w2 => ?_⟩
      · rw [if_neg (show kdF IR pl j ≠ 2 from w2)] at sm
        refine s201_64 (d + 3) K _ _ _ ?_
        refine ⟨by omega, fun _ => ?_, fun q => by omega⟩
        rw [← sm]
        exact ih (m + 1) (j + 1) _ _ _ (by omega) (by omega) (by omega)
      · rw [if_pos (show kdF IR pl j = 2 from w2)] at sm
        obtain ⟨f1, f2, f3⟩ := fl_ok hB.2.1 hv (show 1 ≤ j by omega) (show j ≤ n by omega) w2
        have f4 := f1.2.2.1
        have f5 := f1.2.2.2
        have fz := f1.1
        have b0 := bk_r (B := B) hB.2.1 fz.1
        have eb : bkC B (lf IR) (pl j) = bcN B (fSz (lf IR) (pl j)) (fFr (lf IR) (pl j)) := rfl
        refine blockCount_Y hL.1.1 (by omega) hT fz.1 ?_
        rw [← eb] at f4 f5 ⊢
        have sb := sbF_r ⟨hB.2.1, hB.2.2⟩ fz.1 (B := B) (g := lf IR) (p := pl j)
        have L64 : ∀ (G2 : Nat) (i : Nat) (ii : Int), (bkC B (lf IR) (pl j) - ii).toNat < G2 → ii = i → ii ≤ bkC B (lf IR) (pl j) → fm_X (d + 3) kd201 64 [some (fx 97), some (tj (saD B F (lf IR) pl (kdF IR pl) m + sbF B (lf IR) (pl j) i)), none, some (ti j), some (ti (pl j)), some (ti (bkC B (lf IR) (pl j))), some (ti ii)] [] (sh, M, nx, zl) K := by
          intro G2
          induction G2 with
          | zero => intro i ii q; omega
          | succ G2 ih2 =>
            intro i ii p1 p2 p3
            refine s201_64 (d + 3) K _ _ _ ?_
            refine ⟨by omega, fun w3 => ?_, fun w3 => ?_⟩
            · have ei : (bkC B (lf IR) (pl j)).toNat = i := by omega
              rw [ei] at sm
              rw [← sm]
              exact ih (m + 1) (j + 1) _ _ _ (by omega) (by omega) (by omega)
            have bp := f5 ii (by omega) (by omega)
            have en : blN (lf IR) (pl j) ii = le (lf IR) (pl j + fxT (le (lf IR) (pl j) 2) + 4 * ii) 4 := rfl
            have si : sbF B (lf IR) (pl j) (i + 1) = if blN (lf IR) (pl j) i = 0 then sbF B (lf IR) (pl j) i else sbF B (lf IR) (pl j) i + bbN B (lf IR) (pl j) i := rfl
            rw [← p2] at si
            refine blockNumber_Y hL.1.1 (by omega) hT (by omega) (fun x x1 x2 x3 => ?_)
            rw [← en] at bp x1 x3
            have bp1 := bp.1
            have ex : x = blN (lf IR) (pl j) ii := by omega
            refine ⟨by omega, fun w4 => ?_, fun w4 => ?_⟩
            · rw [if_pos (by omega)] at si
              rw [← si]
              exact ih2 (i + 1) (ii + 1) (by omega) (by omega) (by omega)
            · rw [if_neg (by omega)] at si
              refine blockBytes_Y hL.1.1 (by omega) hT fz (by omega) (by omega) (fun br => ?_)
              refine ⟨by omega, ?_⟩
              have T := ih2 (i + 1) (ii + 1) (by omega) (by omega) (by omega)
              rw [si, ← Int.add_assoc] at T
              exact T
        have T := L64 _ 0 0 (Nat.lt_succ_self _) rfl (by omega)
        have e0 : sbF B (lf IR) (pl j) 0 = 0 := rfl
        rw [e0, Int.add_zero] at T
        exact T
  exact L _ 0 1 _ _ _ (Nat.lt_succ_self _) (by omega) (by omega)
theorem fileUnpacks_Y {j : Int} (h8 : s8C M IR IS LR LS B ids F n pl h f fg s A) (hj : 1 ≤ j ∧ j ≤ n) (hk : kdT (le (lf IR) (pl j) 2) = 2) (hfs : ∀ i : Int, 0 ≤ i → i < F → M 167 i = fsF f B fg i) (k : ∀ (M2 : FM) (z : Int), d8F M M2 → M2 167 = M 167 → (z = 1 ∧ fdP f (lf IR) (fsF f B fg) B A (pl j) ∨ z = 0 ∧ ¬ fdP f (lf IR) (fsF f B fg) B A (pl j)) → K (some (ti z)) (sh, M2, nx, zl)) : fm_Y (d + 6) 207 [.ref 97, .int (Int32.ofInt (pl j))] (sh, M, nx, zl) K := by
  obtain ⟨hL, ⟨b9, b10, b11, b15⟩, ⟨c1, c2, c3⟩, a4, a5⟩ := id h8
  have hB := hL.1.1.2.1
  have n65 := hL.1.1.1.2.2.2
  have Fr := a4.1
  have hv := hL.2.1
  obtain ⟨ap, hd0⟩ := nd_ok hB.2.1 hv hj.1 hj.2
  have hT := hd0.2.1
  obtain ⟨f1, f2, f3⟩ := fl_ok hB.2.1 hv hj.1 hj.2 hk
  obtain ⟨p, gp⟩ : ∃ p : Int, p = pl j := ⟨_, rfl⟩
  rw [← gp] at k ap hd0 hT f1 f2 f3 hk ⊢
  have f4 := f1.2.2.1
  have f5 := f1.2.2.2
  have f6 := f1.2.1
  have fz := f1.1
  have b0 := bk_r (B := B) hB.2.1 fz.1
  have eb : bkC B (lf IR) p = bcN B (fSz (lf IR) p) (fFr (lf IR) p) := rfl
  rw [← eb] at f4 f5
  have mr := mod_r (fSz (lf IR) p) hB.2.1
  refine m207 [fx 97, ti p] ?_
  refine fragment_Y hL.1.1 (by omega) hT (fun x x1 x2 x3 => ?_)
  -- behind the fragment
  have B45 : (fFr (lf IR) p ≠ 4294967295 → fOf (lf IR) p + fSz (lf IR) p % B ≤ fsF f B fg (fFr (lf IR) p)) → b207_45 (d + 5) (fW (d + 5) kd207 K) K [some (fx 97), some (ti p), some (ti x), none, none, none, none, none, none] [] (sh, M, nx, zl) := by
    intro hfr
    have eP : fdP f (lf IR) (fsF f B fg) B A p ↔ bwP f (lf IR) B A p (bkC B (lf IR) p).toNat 0 (fBg (lf IR) p) := ⟨fun q => q.2, fun q => ⟨hfr, q⟩⟩
    rw [eP] at k
    obtain ⟨P, gP⟩ : ∃ P : Prop, P = bwP f (lf IR) B A p (bkC B (lf IR) p).toNat 0 (fBg (lf IR) p) := ⟨_, rfl⟩
    rw [← gP] at k
    refine fileBegin_Y hL.1.1 (by omega) hT (fun br => ?_)
    refine blockCount_Y hL.1.1 (by omega) hT fz.1 ?_
    rw [← eb]
    have L : ∀ (m : Nat) (i a : Int) (M1 : FM) (y7 y8 : Option TV), i = bkC B (lf IR) p - m → 0 ≤ i → (-9223372036854775808 ≤ a ∧ a ≤ 9223372036854775807) → d8F M M1 → M1 167 = M 167 → (P ↔ bwP f (lf IR) B A p m i a) → fm_X (d + 5) kd207 68 [some (fx 97), some (ti p), some (ti x), some (tj a), none, some (ti (bkC B (lf IR) p)), some (ti i), y7, y8] [] (sh, M1, nx, zl) K := by
      intro m
      induction m with
      | zero =>
        intro i a M1 y7 y8 q1 q2 q3 F1 e67 hP
        refine s207_68 (d + 5) K _ _ _ ?_
        exact ⟨by omega, fun _ => ⟨Or.inr rfl, k M1 1 F1 e67 (Or.inl ⟨rfl, hP.2 trivial⟩)⟩, fun w => by omega⟩
      | succ m ih =>
        intro i a M1 y7 y8 q1 q2 q3 F1 e67 hP
        have h81 := s8C_to h8 F1
        have hL1 := h81.1
        have en : blN (lf IR) p i = le (lf IR) (p + fxT (le (lf IR) p 2) + 4 * i) 4 := rfl
        have bp := f5 i q2 (by omega)
        rw [← en] at bp
        obtain ⟨bp1, bp2, bp3⟩ := bp
        have e15 : M1 97 15 = A := h81.2.1.2.2.2
        refine s207_68 (d + 5) K _ _ _ ?_
        refine ⟨by omega, fun w => by omega, fun _ => ?_⟩
        refine blockNumber_Y hL1.1.1 (by omega) hT (by omega) (fun u u1 u2 u3 => ?_)
        rw [← en] at u1 u3
        have eu : u = blN (lf IR) p i := by omega
        rw [eu]
        obtain ⟨v, gv⟩ : ∃ v : Int, v = blN (lf IR) p i := ⟨_, rfl⟩
        have hP2 : P ↔ (v ≠ 0 → (96 ≤ a ∧ a ≤ A - v % 16777216 ∧ rvO (bdS f B a v) = bbN B (lf IR) p i) ∧ bwP f (lf IR) B A p m (i + 1) (a + v % 16777216)) ∧ (v = 0 → bwP f (lf IR) B A p m (i + 1) a) := by
          rw [gv]
          exact hP
        rw [← gv] at bp1 bp2 bp3 u1 ⊢
        refine ⟨by omega, fun w1 => ?_, fun w1 => ?_⟩
        · have NO : ∀ M5 : FM, d8F M M5 → M5 167 = M 167 → ¬ (96 ≤ a ∧ a ≤ A - v % 16777216 ∧ rvO (bdS f B a v) = bbN B (lf IR) p i) → K (some (ti 0)) (sh, M5, nx, zl) := fun M5 F5 e5 q => k M5 0 F5 e5 (Or.inr ⟨rfl, fun y => q ((hP2.1 y).1 w1).1⟩)
          refine ⟨by omega, fun w2 => ⟨Or.inl rfl, NO M1 F1 e67 (fun q => by omega)⟩, fun w2 => ?_⟩
          refine ⟨by omega, ?_⟩
          refine ⟨by omega, fun w3 => ⟨Or.inl rfl, NO M1 F1 e67 (fun q => by omega)⟩, fun w3 => ?_⟩
          refine ldB_Y h81 (by omega) bp2 (by omega) (fun M2 F2 e2 _ rr => ?_)
          have F12 := d8_trans F1 F2
          have hL2 := (s8C_to h8 F12).1
          refine blockBytes_Y hL2.1.1 (by omega) hT fz (by omega) (by omega) (fun br2 => ?_)
          refine ⟨by omega, fun w4 => ?_, fun w4 => ⟨Or.inl rfl, NO M2 F12 (e2.trans e67) (fun q => w4 q.2.2)⟩⟩
          refine ⟨by omega, ?_⟩
          refine ih (i + 1) (a + v % 16777216) M2 _ _ (by omega) (by omega) (by omega) F12 (e2.trans e67) (hP2.trans ⟨fun q => (q.1 w1).2, fun q => ⟨fun _ => ⟨⟨by omega, by omega, w4⟩, q⟩, fun y => absurd y w1⟩⟩)
        · exact ih (i + 1) a M1 _ _ (by omega) (by omega) q3 F1 e67 (hP2.trans ⟨fun q => q.2 w1, fun q => ⟨fun y => absurd w1 y, fun _ => q⟩⟩)
    exact L (bkC B (lf IR) p).toNat 0 (fBg (lf IR) p) M _ _ (by omega) (by omega) br (d8_refl M) rfl (by rw [gP])
  refine ⟨by omega, fun w => B45 (fun q => by omega), fun w => ?_⟩
  have g1 := f6 (by omega)
  have ex : x = fFr (lf IR) p := by omega
  refine fragmentOffset_Y hL.1.1 (by omega) hT (fun orr => ?_)
  refine rest_Y hL.1.1 (by omega) hT fz.1 ?_
  refine ⟨by omega, ?_⟩
  refine ⟨by omega, ?_⟩
  have e67 := hfs (fFr (lf IR) p) (by omega) (by omega)
  have frI := a4.2.2 (fFr (lf IR) p) (by omega) (by omega)
  have rr : -1 ≤ fsF f B fg (fFr (lf IR) p) ∧ fsF f B fg (fFr (lf IR) p) ≤ B := bdS_r (by omega) frI.2.1.2.2
  rw [ex, e67]
  refine ⟨by omega, ?_⟩
  refine ⟨by omega, fun w2 => ?_, fun w2 => ⟨Or.inl rfl, k M 0 (d8_refl M) rfl (Or.inr ⟨rfl, fun q => by have := q.1 (by omega); omega⟩)⟩⟩
  rw [← ex]
  refine B45 (fun _ => ?_)
  exact w2
theorem blocksUnpack_Y (h8 : s8C M IR IS LR LS B ids F n pl h f fg s A) (hfs : ∀ i : Int, 0 ≤ i → i < F → M 167 i = fsF f B fg i) (k : ∀ (M2 : FM) (z : Int), d8F M M2 → M2 167 = M 167 → (z = 1 ∧ (∀ j : Int, 1 ≤ j → j ≤ n → kdF IR pl j = 2 → fdP f (lf IR) (fsF f B fg) B A (pl j)) ∨ z = 0 ∧ ¬ (∀ j : Int, 1 ≤ j → j ≤ n → kdF IR pl j = 2 → fdP f (lf IR) (fsF f B fg) B A (pl j))) → K (some (ti z)) (sh, M2, nx, zl)) : fm_Y (d + 7) 206 [.ref 97] (sh, M, nx, zl) K := by
  have nr := h8.1.1.2.1
  have hB := h8.1.1.1.2.1
  refine m206 [fx 97] ?_
  have L : ∀ (G : Nat) (j : Int) (M1 : FM) (y2 : Option TV), (n + 1 - j).toNat < G → 1 ≤ j → j ≤ n + 1 → d8F M M1 → M1 167 = M 167 → (∀ i : Int, 1 ≤ i → i < j → kdF IR pl i = 2 → fdP f (lf IR) (fsF f B fg) B A (pl i)) → fm_X (d + 6) kd206 2 [some (fx 97), some (ti j), y2] [] (sh, M1, nx, zl) K := by
    intro G
    induction G with
    | zero => intro j M1 y2 q; omega
    | succ G ih =>
      intro j M1 y2 q1 q2 q3 F1 e67 ok
      have h81 := s8C_to h8 F1
      have e10 := h81.2.1.2.1
      refine s206_2 (d + 6) K _ _ _ ?_
      refine ⟨by omega, fun w => ⟨Or.inr rfl, k M1 1 F1 e67 (Or.inl ⟨rfl, fun i i0 i1 => ok i i0 (by omega)⟩)⟩, fun w => ?_⟩
      obtain ⟨ap, hd0⟩ := nd_ok hB.2.1 h8.1.2.1 (show 1 ≤ j by omega) (show j ≤ n by omega)
      have hT := hd0.2.1
      have h16 := hd0.1
      have kr : 1 ≤ kdT (le (lf IR) (pl j) 2) ∧ kdT (le (lf IR) (pl j) 2) ≤ 7 := by
        unfold kdT
        split <;> omega
      refine placeC_Y h81.1 (by omega) ?_
      refine kind_Y h81.1.1.1 (by omega) hT ?_
      refine ⟨by omega, fun w2 => ?_, fun w2 => ?_⟩
      · refine ih (j + 1) M1 _ (by omega) (by omega) (by omega) F1 e67 (fun i i0 i1 => ?_)
        by_cases c : i < j
        · exact ok i i0 c
        · rw [show i = j by omega]
          intro z
          exact absurd z w2
      · refine fileUnpacks_Y h81 (by omega) w2 (by rw [e67]; exact hfs) (fun M2 z F2 e2 hz => ?_)
        have F12 := d8_trans F1 F2
        rcases hz.symm with ⟨z1, z2⟩ | ⟨z1, z2⟩
        · rw [z1]
          exact ⟨by omega, fun q => absurd rfl q, fun _ => ⟨Or.inl rfl, k M2 0 F12 (e2.trans e67) (Or.inr ⟨rfl, fun q => z2 (q j (by omega) (by omega) w2)⟩)⟩⟩
        · rw [z1]
          refine ⟨by omega, fun _ => ?_, fun q => by omega⟩
          refine ih (j + 1) M2 _ (by omega) (by omega) (by omega) F12 (e2.trans e67) (fun i i0 i1 => ?_)
          by_cases c : i < j
          · exact ok i i0 c
          · rw [show i = j by omega]
            intro _
            exact z2
  exact L _ 1 M _ (Nat.lt_succ_self _) (by omega) (by omega) (d8_refl M) rfl (fun i i0 i1 => by omega)
end CDATA
