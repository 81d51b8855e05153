/-! MOUNTING: all listings; the class -/
theorem wk_one {IS : List Int} {lg : Int → Int} {e : Int} : ∀ (E E2 : List (Int × Int)) (a l hd : Int), wkL IS lg e a l hd E → wkL IS lg e a l hd E2 → E = E2
  | [], [], _, _, _, _, _ => rfl
  | [], q :: r, a, l, hd, h1, h2 => by
    obtain ⟨l2, n1, -⟩ := h2
    exact absurd h1 (nxH_go n1)
  | q :: r, [], a, l, hd, h1, h2 => by
    obtain ⟨l2, n1, -⟩ := h1
    exact absurd h2 (nxH_go n1)
  | q :: r, q2 :: r2, a, l, hd, h1, h2 => by
    obtain ⟨l1, n1, -, n3⟩ := h1
    obtain ⟨l2, m1, -, m3⟩ := h2
    obtain ⟨e1, e2, e3⟩ := nxH_one n1 m1
    obtain ⟨x, y⟩ := q
    obtain ⟨x2, y2⟩ := q2
    dsimp only at e1 e2 n3 m3
    subst e1 e2 e3
    rw [wk_one r r2 _ _ _ n3 m3]
theorem opP_one {LR LS : List Int} {g : Int → Int} {p b e b2 e2 : Int} (hs : shR LR LS) (h : opP LR LS g p b e) (q : opP LR LS g p b2 e2) : b2 = b ∧ e2 = e := by
  rcases h with z | ⟨z1, z2, z3, z4⟩
  · rcases q with y | ⟨y1, y2, y3, y4⟩
    · omega
    · omega
  · rcases q with y | ⟨y1, y2, y3, y4⟩
    · omega
    · have := fl_one hs z2 y2
      omega
theorem liP_one {IR IS LR LS : List Int} {h : Int → Int} {p b e b2 e2 : Int} {E E2 : List (Int × Int)} (hs : shR LR LS) (h1 : liP IR IS LR LS h p b e E) (h2 : liP IR IS LR LS h p b2 e2 E2) : E = E2 ∧ b = b2 ∧ e = e2 := by
  obtain ⟨e1, e2⟩ := opP_one hs h1.1 h2.1
  subst e1 e2
  exact ⟨wk_one _ _ _ _ _ h1.2.1.1 h2.2.1.1, rfl, rfl⟩
def liX (IR IS LR LS : List Int) (h : Int → Int) (p : Int) : Prop := ∃ (E : List (Int × Int)) (b e : Int), liP IR IS LR LS h p b e E
noncomputable def lsE (IR IS LR LS : List Int) (h : Int → Int) (p : Int) : List (Int × Int) := @dite _ (liX IR IS LR LS h p) (Classical.propDecidable _) (fun q => Classical.choose q) (fun _ => [])
theorem lsE_eq {IR IS LR LS : List Int} {h : Int → Int} {p b e : Int} {E : List (Int × Int)} (hs : shR LR LS) (h1 : liP IR IS LR LS h p b e E) : lsE IR IS LR LS h p = E := by
  have q : liX IR IS LR LS h p := ⟨E, b, e, h1⟩
  have e1 : lsE IR IS LR LS h p = Classical.choose q := by
    unfold lsE
    rw [dif_pos q]
  rw [e1]
  obtain ⟨b2, e2, h2⟩ := Classical.choose_spec q
  exact (liP_one hs h2 h1).1
def eqN (n : Int) (t u : Int → Int) : Prop := ∀ j : Int, 1 ≤ j → j ≤ n → t j = u j
theorem eqN_ur {n : Int} {t u : Int → Int} (h : eqN n t u) (c : Int) (x y : Int) (hx : 1 ≤ c → c ≤ n → x = y) : eqN n (ur t c x) (ur u c y) := by
  intro j h1 h2
  unfold ur
  split
  · rename_i e
    exact hx (by omega) (by omega)
  · exact h j h1 h2
theorem tiL_cg {n : Int} {lg : Int → Int} : ∀ (E : List (Int × Int)) (t u : Int → Int), eqN n t u → eqN n (tiL lg E t) (tiL lg E u)
  | [], _, _, h => h
  | q :: r, t, u, h => tiL_cg r _ _ (eqN_ur h _ _ _ (fun h1 h2 => by rw [h _ h1 h2]))
theorem hoL_cg {n : Int} {lg : Int → Int} {f : Int} : ∀ (E : List (Int × Int)) (t u : Int → Int), eqN n t u → eqN n (hoL lg f E t) (hoL lg f E u)
  | [], _, _, h => h
  | q :: r, t, u, h => hoL_cg r _ _ (eqN_ur h _ _ _ (fun _ _ => rfl))
theorem eaL_cg {n : Int} {f : Int} : ∀ (E : List (Int × Int)) (t u : Int → Int), eqN n t u → eqN n (eaL f E t) (eaL f E u)
  | [], _, _, h => h
  | q :: r, t, u, h => eaL_cg r _ _ (eqN_ur h _ _ _ (fun h1 h2 => by rw [h _ h1 h2]))
theorem foL_cg {n : Int} {lg kd : Int → Int} {f : Int} : ∀ (E : List (Int × Int)) (t u : Int → Int), eqN n t u → eqN n (foL lg kd f E t) (foL lg kd f E u)
  | [], _, _, h => h
  | q :: r, t, u, h => by
    refine foL_cg r _ _ ?_
    split
    · exact eqN_ur h _ _ _ (fun h1 h2 => by rw [h _ h1 h2])
    · exact h
/-- the counts behind the folders 1 to m -/
def tiA (lg kd : Int → Int) (Ef : Int → List (Int × Int)) : Nat → Int → Int
  | 0 => fun _ => 0
  | m + 1 => if kd (m + 1) = 1 then tiL lg (Ef (m + 1)) (tiA lg kd Ef m) else tiA lg kd Ef m
def hoA (lg kd : Int → Int) (Ef : Int → List (Int × Int)) : Nat → Int → Int
  | 0 => fun _ => 0
  | m + 1 => if kd (m + 1) = 1 then hoL lg (m + 1) (Ef (m + 1)) (hoA lg kd Ef m) else hoA lg kd Ef m
def eaA (kd : Int → Int) (Ef : Int → List (Int × Int)) : Nat → Int → Int
  | 0 => fun _ => 0
  | m + 1 => if kd (m + 1) = 1 then eaL (m + 1) (Ef (m + 1)) (eaA kd Ef m) else eaA kd Ef m
def foA (lg kd : Int → Int) (Ef : Int → List (Int × Int)) : Nat → Int → Int
  | 0 => fun _ => 0
  | m + 1 => if kd (m + 1) = 1 then foL lg kd (m + 1) (Ef (m + 1)) (foA lg kd Ef m) else foA lg kd Ef m
def ctA (n : Int) (lg kd : Int → Int) (Ef : Int → List (Int × Int)) (m : Nat) (M2 : FM) : Prop := eqN n (M2 113) (tiA lg kd Ef m) ∧ eqN n (M2 114) (hoA lg kd Ef m) ∧ eqN n (M2 115) (eaA kd Ef m) ∧ eqN n (M2 116) (foA lg kd Ef m)
noncomputable def lsF (IR IS LR LS : List Int) (h pl : Int → Int) : Int → List (Int × Int) := fun j => lsE IR IS LR LS h (pl j)
def lsA (IR IS LR LS : List Int) (h pl : Int → Int) (n : Int) : Prop := ∀ j : Int, 1 ≤ j → j ≤ n → kdF IR pl j = 1 → liX IR IS LR LS h (pl j)
section LHOLD
variable {d nx zl : Nat} {K : Option TV → FH → Prop} {sh : Nat → Option Shp} {M : FM} {IR IS LR LS : List Int} {B ids F n : Int} {pl h : Int → Int}
theorem lhold_Y (hL : ltC M IR IS LR LS B ids F n pl h)
    (k0 : ∀ M2 : FM, loF M M2 → ¬ lsA IR IS LR LS h pl n → K (some (ti 0)) (sh, M2, nx, zl))
    (k1 : ∀ M2 : FM, loF M M2 → lsA IR IS LR LS h pl n → ctA n (lf LR) (kdF IR pl) (lsF IR IS LR LS h pl) n.toNat M2 → K (some (ti 1)) (sh, M2, nx, zl)) : fm_Y (d + 6) 182 [.ref 100] (sh, M, nx, zl) K := by
  have nr := hL.1.2.1
  have hs := hL.2.2.2.1.2.2.2.1
  refine m182 [fx 100] ?_
  have L49 : ∀ (G : Nat) (m : Nat) (j : Int) (M1 : FM), (n + 1 - j).toNat < G → j = m + 1 → j ≤ n + 1 → ltC M1 IR IS LR LS B ids F n pl h → loF M M1 → (∀ i : Int, 1 ≤ i → i < j → kdF IR pl i = 1 → liX IR IS LR LS h (pl i)) → ctA n (lf LR) (kdF IR pl) (lsF IR IS LR LS h pl) m M1 → fm_X (d + 5) kd182 49 [some (fx 100), some (ti j)] [] (sh, M1, nx, zl) K := by
    intro G
    induction G with
    | zero => intro m j M1 q; omega
    | succ G ih =>
      intro m j M1 q1 q2 q3 hL1 F1 ok ct
      have nr1 := hL1.1.2.1
      refine s182_49 (d + 5) K _ _ _ ?_
      refine ⟨by omega, fun w => ⟨Or.inr rfl, k1 M1 F1 (fun i i0 i1 => ok i i0 (by omega)) ?_⟩, fun w => ?_⟩
      · rw [show n.toNat = m by omega]
        exact ct
      obtain ⟨-, hd0⟩ := nd_ok hL1.1.1.2.1.2.1 hL1.2.1 (show 1 ≤ j by omega) (show j ≤ n by omega)
      have kr : 1 ≤ kdT (le (lf IR) (pl j) 2) ∧ kdT (le (lf IR) (pl j) 2) ≤ 7 := by
        have := hd0.2.1
        unfold kdT
        split <;> omega
      have ek : kdF IR pl j = kdT (le (lf IR) (pl j) 2) := rfl
      refine kindOf_Y hL1 (by omega) ?_
      have ej : ((m : Int) + 1) = j := by omega
      have s1 : tiA (lf LR) (kdF IR pl) (lsF IR IS LR LS h pl) (m + 1) = if kdF IR pl (m + 1) = 1 then tiL (lf LR) (lsF IR IS LR LS h pl (m + 1)) (tiA (lf LR) (kdF IR pl) (lsF IR IS LR LS h pl) m) else tiA (lf LR) (kdF IR pl) (lsF IR IS LR LS h pl) m := rfl
      have s2 : hoA (lf LR) (kdF IR pl) (lsF IR IS LR LS h pl) (m + 1) = if kdF IR pl (m + 1) = 1 then hoL (lf LR) (m + 1) (lsF IR IS LR LS h pl (m + 1)) (hoA (lf LR) (kdF IR pl) (lsF IR IS LR LS h pl) m) else hoA (lf LR) (kdF IR pl) (lsF IR IS LR LS h pl) m := rfl
      have s3 : eaA (kdF IR pl) (lsF IR IS LR LS h pl) (m + 1) = if kdF IR pl (m + 1) = 1 then eaL (m + 1) (lsF IR IS LR LS h pl (m + 1)) (eaA (kdF IR pl) (lsF IR IS LR LS h pl) m) else eaA (kdF IR pl) (lsF IR IS LR LS h pl) m := rfl
      have s4 : foA (lf LR) (kdF IR pl) (lsF IR IS LR LS h pl) (m + 1) = if kdF IR pl (m + 1) = 1 then foL (lf LR) (kdF IR pl) (m + 1) (lsF IR IS LR LS h pl (m + 1)) (foA (lf LR) (kdF IR pl) (lsF IR IS LR LS h pl) m) else foA (lf LR) (kdF IR pl) (lsF IR IS LR LS h pl) m := rfl
      rw [ej] at s1 s2 s3 s4
      refine ⟨by omega, fun w2 => ?_, fun w2 => ?_⟩
      · refine ih (m + 1) (j + 1) M1 (by omega) (by omega) (by omega) hL1 F1 (fun i i0 i1 => ?_) ?_
        · by_cases c : i < j
          · exact ok i i0 c
          · rw [show i = j by omega]
            intro z
            exact absurd z w2
        · rw [if_neg (show kdF IR pl j ≠ 1 from w2)] at s1 s2 s3 s4
          unfold ctA
          rw [s1, s2, s3, s4]
          exact ct
      · refine listingHolds_Y hL1 (by omega) w2 (fun M2 F2 no => ?_) (fun M2 b e E F2 li c2 => ?_)
        · refine ⟨by omega, fun z => absurd rfl z, fun _ => ⟨Or.inl rfl, k0 M2 (lo_trans F1 F2) (fun q => ?_)⟩⟩
          obtain ⟨E, b, e, li⟩ := q j (by omega) (by omega) w2
          exact no b e E li
        · refine ⟨by omega, fun _ => ?_, fun z => by omega⟩
          refine ih (m + 1) (j + 1) M2 (by omega) (by omega) (by omega) (ltC_to hL1 (fun c cc => F2.1 c (by omega) (by omega))) (lo_trans F1 F2) (fun i i0 i1 => ?_) ?_
          · by_cases c : i < j
            · exact ok i i0 c
            · rw [show i = j by omega]
              intro _
              exact ⟨E, b, e, li⟩
          · have eE : lsF IR IS LR LS h pl j = E := lsE_eq hs li
            rw [if_pos (ek.trans w2), eE] at s1 s2 s3 s4
            obtain ⟨t1, t2, t3, t4⟩ := c2
            obtain ⟨u1, u2, u3, u4⟩ := ct
            refine ⟨?_, ?_, ?_, ?_⟩
            · rw [s1, t1]
              exact tiL_cg _ _ _ u1
            · rw [s2, t2]
              exact hoL_cg _ _ _ u2
            · rw [s3, t3]
              exact eaL_cg _ _ _ u3
            · rw [s4, t4]
              exact foL_cg _ _ _ u4
  have L2 : ∀ (G : Nat) (j : Int) (M1 : FM), (n + 1 - j).toNat < G → 1 ≤ j → j ≤ n + 1 → loF M M1 → M1 100 = M 100 → (∀ i : Int, 1 ≤ i → i < j → M1 113 i = 0 ∧ M1 114 i = 0 ∧ M1 115 i = 0 ∧ M1 116 i = 0) → fm_X (d + 5) kd182 2 [some (fx 100), some (ti j)] [] (sh, M1, nx, zl) K := by
    intro G
    induction G with
    | zero => intro j M1 q; omega
    | succ G ih =>
      intro j M1 q1 q2 q3 F1 e100 z
      have e101 : M1 101 2 = n := by rw [F1.1 101 (by omega) (by omega)]; exact nr.1
      refine s182_2 (d + 5) K _ _ _ ?_
      refine ⟨by omega, fun w => ?_, fun w => ?_⟩
      · refine L49 _ 0 1 M1 (Nat.lt_succ_self _) (by omega) (by omega) (ltC_to hL (fun c cc => F1.1 c (by omega) (by omega))) F1 (fun i i0 i1 => by omega) ⟨fun i i0 i1 => ?_, fun i i0 i1 => ?_, fun i i0 i1 => ?_, fun i i0 i1 => ?_⟩
        · exact (z i i0 (by omega)).1
        · exact (z i i0 (by omega)).2.1
        · exact (z i i0 (by omega)).2.2.1
        · exact (z i i0 (by omega)).2.2.2
      · refine ⟨by omega, ?_⟩
        refine ⟨by omega, ?_⟩
        refine ⟨by omega, ?_⟩
        refine ⟨by omega, ?_⟩
        obtain ⟨P, gP⟩ : ∃ P : FM, P = pq (pq (pq (pq M1 113 j 0) 114 j 0) 115 j 0) 116 j 0 := ⟨_, rfl⟩
        have po : ∀ c : Nat, (c < 113 ∨ 116 < c) → P c = M1 c := fun c hc => by rw [gP, pq_o _ _ _ (by omega), pq_o _ _ _ (by omega), pq_o _ _ _ (by omega), pq_o _ _ _ (by omega)]
        have TL : fm_X (d + 5) kd182 2 [some (fx 100), some (ti (j + 1))] [] (sh, P, nx, zl) K := by
          refine ih (j + 1) P (by omega) (by omega) (by omega) ⟨fun c c1 c2 => (po c c2).trans (F1.1 c c1 c2), ?_⟩ ((po 100 (by omega)).trans e100) (fun i i0 i1 => ?_)
          · rw [show P 114 = pq (pq M1 113 j 0) 114 j 0 114 by rw [gP, pq_o _ _ _ (by omega), pq_o _ _ _ (by omega)], pq_ne _ _ _ _ (by omega), pq_o _ _ _ (by omega)]
            exact F1.2
          have e3 : P 113 = pq M1 113 j 0 113 := by rw [gP, pq_o _ _ _ (by omega), pq_o _ _ _ (by omega), pq_o _ _ _ (by omega)]
          have e4 : P 114 = pq (pq M1 113 j 0) 114 j 0 114 := by rw [gP, pq_o _ _ _ (by omega), pq_o _ _ _ (by omega)]
          have e5 : P 115 = pq (pq (pq M1 113 j 0) 114 j 0) 115 j 0 115 := by rw [gP, pq_o _ _ _ (by omega)]
          by_cases c : i = j
          · rw [e3, e4, e5, gP, c, pq_at, pq_at, pq_at, pq_at]
            exact ⟨rfl, rfl, rfl, rfl⟩
          · rw [e3, e4, e5, gP, pq_ne _ _ _ _ c, pq_ne _ _ _ _ c, pq_ne _ _ _ _ c, pq_ne _ _ _ _ c, pq_o _ _ _ (by omega), pq_o _ _ _ (by omega), pq_o _ _ _ (by omega), pq_o _ _ _ (by omega), pq_o _ _ _ (by omega), pq_o _ _ _ (by omega)]
            exact z i i0 (by omega)
        rw [gP] at TL
        exact TL
  exact L2 _ 1 M (Nat.lt_succ_self _) (by omega) (by omega) ⟨fun c _ _ => rfl, rfl⟩ rfl (fun i i0 i1 => by omega)
end LHOLD
