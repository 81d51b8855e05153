/-! FREEZING: data: what holds of a file's numbers -/
/-- bytes of zeros, from the block numbers -/
def zeB (bl : List Int) (fb : Nat) (B n : Int) : Nat → Int
  | 0 => 0
  | i + 1 => zeB bl fb B n i + (if bl[fb + i]? = some 0 then min B (n - i * B) else 0)
theorem zeB_ap {bl Y : List Int} {fb : Nat} {B n : Int} : ∀ i : Nat, fb + i ≤ bl.length → zeB (bl ++ Y) fb B n i = zeB bl fb B n i
  | 0, _ => rfl
  | i + 1, h => by
    show zeB (bl ++ Y) fb B n i + (if (bl ++ Y)[fb + i]? = some 0 then min B (n - i * B) else 0) = zeB bl fb B n i + (if bl[fb + i]? = some 0 then min B (n - i * B) else 0)
    rw [zeB_ap i (by omega), List.getElem?_append_left (by omega)]
/-- what holds of a file of n bytes -/
def flQ (op : Int) (B : Nat) (s : DS) (n x : Int) : Prop := (0 ≤ dN s 1 x ∧ dN s 1 x + bkN op B n ≤ (dB s).length) ∧ dN s 2 x = bkN op B n ∧ dN s 3 x = zeB (dB s) (dN s 1 x).toNat B n (bkN op B n).toNat ∧ (0 ≤ dN s 3 x ∧ dN s 3 x ≤ n)
section FILES
variable {op : Int} {B : Nat} {X : List Int} {x : Int} {s : DS}
theorem bkD_B (t : DS) : ∀ i : Nat, ∃ Y : List Int, dB (bkD op B X x t i) = dB t ++ Y
  | 0 => ⟨[], (List.append_nil _).symm⟩
  | i + 1 => by
    obtain ⟨Y, hY⟩ := bkD_B t i
    refine ⟨Y ++ [if chk X B i = List.replicate (chk X B i).length 0 then 0 else (stB op (chk X B i)).2], ?_⟩
    show dB (bkD op B X x t i) ++ [_] = _
    rw [hY, List.append_assoc]
theorem fiR_B (t : DS) : dB (fiR op B X x t) = dB t := by
  unfold fiR
  split <;> rfl
theorem fiD_B : ∃ Y : List Int, dB (fiD op B X x s) = dB s ++ Y := by
  obtain ⟨Y, hY⟩ := bkD_B (op := op) (B := B) (X := X) (x := x) (fi0 op B X x s) (bkN op B X.length).toNat
  refine ⟨Y, ?_⟩
  unfold fiD
  rw [fiR_B, hY]
  rfl
/-- zeros are those whose number is 0 -/
theorem bkD_z (hX : X.length ≤ 65536) (t : DS) (h2 : dN t 2 x = 0 ∧ dN t 3 x = 0) : ∀ i : Nat, (∀ j : Nat, j < i → (j : Int) * B ≤ X.length) → (dB (bkD op B X x t i)).length = (dB t).length + i ∧ dN (bkD op B X x t i) 2 x = i ∧ dN (bkD op B X x t i) 3 x = zeB (dB (bkD op B X x t i)) (dB t).length B X.length i
  | 0, _ => ⟨rfl, h2.1, h2.2⟩
  | i + 1, hj => by
    obtain ⟨a1, a2, a3⟩ := bkD_z hX t h2 i (fun j q => hj j (by omega))
    obtain ⟨u, hu⟩ : ∃ u, u = bkD op B X x t i := ⟨_, rfl⟩
    rw [← hu] at a1 a2 a3
    obtain ⟨C, hC⟩ : ∃ C, C = chk X B i := ⟨_, rfl⟩
    have cl := chk_len (X := X) (B := B) i
    rw [← hC] at cl
    have iB := hj i (by omega)
    have i0 : (0 : Int) ≤ (i : Int) * B := by
      have := Int.natCast_nonneg (i * B)
      rw [Int.natCast_mul] at this
      exact this
    have e : bkD op B X x t (i + 1) = pbD op u x C := by
      show pbD op (bkD op B X x t i) x (chk X B i) = _
      rw [hu, hC]
    rw [e]
    have eB : dB (pbD op u x C) = dB u ++ [if C = List.replicate C.length 0 then 0 else (stB op C).2] := rfl
    have sn := stB_num op C (by omega)
    refine ⟨?_, ?_, ?_⟩
    · rw [eB, List.length_append, a1]
      rfl
    · show setN _ 2 x (dN u 2 x + 1) 2 x = _
      rw [setN_at, a2]
      rfl
    · show setN (setN (dN u) 3 x (dN u 3 x + (if C = List.replicate C.length 0 then (C.length : Int) else 0))) 2 x (dN u 2 x + 1) 3 x = zeB (dB (pbD op u x C)) (dB t).length B X.length i + (if (dB (pbD op u x C))[(dB t).length + i]? = some 0 then min (B : Int) (X.length - i * B) else 0)
      have ea : ∀ v : Int, (dB u ++ [v])[(dB t).length + i]? = some v := fun v => by
        rw [← a1, apG, if_neg (Nat.lt_irrefl _), if_pos rfl]
      rw [setN_ne (Or.inl (by decide)), setN_at, eB, zeB_ap i (by omega), ← a3, ea]
      by_cases c : C = List.replicate C.length 0
      · rw [if_pos c, if_pos c, if_pos rfl, cl]
        omega
      · rw [if_neg c, if_neg c, if_neg (fun q => by injection q with q; omega)]
/-- a file put just now -/
theorem fiD_f (hB : bB5 B) (hX : X.length ≤ 65536) (k : Nat) {S : Int} (hq : dqI s k S B) (h0 : 0 ≤ S) (hS : S + X.length ≤ 65536) (hk : k < 2000) : flQ op B (fiD op B X x s) X.length x := by
  obtain ⟨⟨i1, i2, i3, i4⟩, i5, i6⟩ := fi0_q (op := op) (B := B) (X := X) (x := x) k hq (by omega) (by omega) h0
  obtain ⟨⟨m0, m1⟩, m2, m3, ⟨r0, r1, r2⟩, m4⟩ := bkN_b (op := op) (B := B) (n := X.length) hB (by omega)
  have br := bB5_r hB
  obtain ⟨a1, a2, a3⟩ := bkD_z (op := op) (B := B) (X := X) (x := x) hX (fi0 op B X x s) i5 (bkN op B X.length).toNat (fun j hj => by
    have q := Int.mul_le_mul_of_nonneg_right (c := (B : Int)) (show (j : Int) ≤ bkN op B X.length - 1 by omega) (by omega)
    rw [if_neg (by omega)] at m2
    omega)
  have K := bkD_q (op := op) (B := B) (X := X) (x := x) (s := fi0 op B X x s) hB hX (by rw [i2]; exact hq.2.2.1) i5 i6 (bkN op B X.length).toNat (by omega)
  have f0 := fi0_x (op := op) (B := B) (X := X) (x := x) (s := s)
  obtain ⟨t, ht⟩ : ∃ t, t = bkD op B X x (fi0 op B X x s) (bkN op B X.length).toNat := ⟨_, rfl⟩
  rw [← ht] at a1 a2 a3 K
  rw [i2] at a1 a3
  have n1 : dN t 1 x = (dB s).length := by
    rw [ht, bkD_o _ _ 1 x (Or.inr (by decide))]
    exact f0.2.1
  have e : fiD op B X x s = fiR op B X x t := by
    unfold fiD
    rw [ht]
  have nv : ∀ j : Int, j ≠ 4 → j ≠ 5 → dN (fiD op B X x s) j x = dN t j x := by
    intro j j1 j2
    rw [e, fiR_n]
    split
    · rfl
    · rw [setN_ne (Or.inl j2), setN_ne (Or.inl j1)]
  have eb : dB (fiD op B X x s) = dB t := by rw [e, fiR_B]
  refine ⟨⟨?_, ?_⟩, ?_, ?_, ?_, ?_⟩
  · rw [nv 1 (by decide) (by decide), n1]
    omega
  · rw [nv 1 (by decide) (by decide), n1, eb, a1]
    omega
  · rw [nv 2 (by decide) (by decide), a2]
    omega
  · rw [nv 3 (by decide) (by decide), nv 1 (by decide) (by decide), eb, n1, a3, Int.toNat_natCast]
  · rw [nv 3 (by decide) (by decide)]
    exact K.2.2.2.1.2.1
  · rw [nv 3 (by decide) (by decide)]
    have := K.2.2.2.1.2.2
    omega
theorem flQ_keep {t : DS} {n y : Int} (h : flQ op B s n y) (h1 : ∃ Y : List Int, dB t = dB s ++ Y) (h2 : ∀ j : Int, dN t j y = dN s j y) : flQ op B t n y := by
  obtain ⟨⟨a1, a2⟩, a3, a4, a5⟩ := h
  obtain ⟨Y, hY⟩ := h1
  unfold flQ
  rw [h2 1, h2 2, h2 3, hY]
  refine ⟨⟨a1, ?_⟩, a3, ?_, a5⟩
  · rw [List.length_append]
    omega
  · by_cases c : 0 ≤ bkN op B n
    · rw [zeB_ap _ (by omega)]
      exact a4
    · rw [show (bkN op B n).toNat = 0 by omega] at a4 ⊢
      exact a4
theorem dtD_f {M : FM} (hW : twR M) {L : List Int} (hP : nuP M L) (hB : bB5 B) : ∀ k : Nat, k ≤ L.length → ∀ (i : Nat) (y : Int), i < k → L[i]? = some y → M 171 y = 2 → flQ op B (dtD M op B L k) (M 180 y) y
  | 0, _, i, y, hi, _, _ => by omega
  | k + 1, hk, i, y, hi, hy, y2 => by
    have ih := dtD_f hW hP hB k (by omega)
    obtain ⟨Q1, Q0⟩ := dtD_q (op := op) hW hP hB k (by omega)
    have LL := nuP_len hW hP
    have sz := szS_le2 hW hP (k + 1)
    obtain ⟨x, hx⟩ : ∃ x, L[k]? = some x := ⟨_, List.getElem?_eq_getElem (by omega)⟩
    have xl := (hP.2 x (List.mem_of_getElem? hx)).1
    have b := (hW.2.1.2 x xl.1 xl.2).1
    have e : szS M L (k + 1) = szS M L k + (if M 171 x = 2 then M 180 x else 0) := by
      show szS M L k + (match L[k]? with
        | none => 0
        | some x => if M 171 x = 2 then M 180 x else 0) = _
      rw [hx]
    have e2 : dtD M op B L (k + 1) = dtX M op B L k (dtD M op B L k) x := by
      show (match L[k]? with
        | none => dtD M op B L k
        | some x => dtX M op B L k (dtD M op B L k) x) = _
      rw [hx]
    have fl : ∀ z : Int, 0 ≤ M 180 z → ((fbL M z).length : Int) = M 180 z := fun z hz => by
      unfold fbL
      rw [sl_len]
      omega
    rw [e2]
    unfold dtX
    by_cases c : M 171 x = 2
    · rw [if_pos c]
      rw [e, if_pos c] at sz
      cases tw : twX M L x k with
      | none =>
        show flQ op B (fiD op B (fbL M x) x (dtD M op B L k)) (M 180 y) y
        by_cases ei : i = k
        · rw [ei, hx] at hy
          injection hy with hy
          rw [← hy]
          have := fiD_f (op := op) (B := B) (X := fbL M x) (x := x) hB (by have := fl x b.2; omega) k Q1 Q0 (by rw [fl x b.2]; exact sz) (by omega)
          rw [fl x b.2] at this
          exact this
        · have ne : y ≠ x := fun q => by
            rw [q] at hy
            have := nd_inj hP.1 hy hx
            omega
          exact flQ_keep (ih i y (by omega) hy y2) fiD_B (fun j => fiD_o ne)
      | some w =>
        show flQ op B (dI (dtD M op B L k), dB (dtD M op B L k), dF (dtD M op B L k), dT (dtD M op B L k), cpN (dN (dtD M op B L k)) x w) (M 180 y) y
        by_cases ei : i = k
        · rw [ei, hx] at hy
          injection hy with hy
          rw [← hy]
          obtain ⟨w2, j, j1, j2⟩ := twX_in k tw
          have q := ih j w j1 j2 w2
          have wl := (hP.2 w (List.mem_of_getElem? j2)).1
          have wb := (hW.2.1.2 w wl.1 wl.2).1
          have es : M 180 w = M 180 x := by
            have H : ∀ q : Nat, twX M L x q = some w → fbL M w = fbL M x := by
              intro q
              induction q with
              | zero => intro hq; cases hq
              | succ q ihq =>
                intro hq
                have hq2 : (match twX M L x q with
                  | some y => some y
                  | none => match L[q]? with
                    | some y => if M 171 y = 2 ∧ fbL M y = fbL M x then some y else none
                    | none => none) = some w := hq
                cases h1 : twX M L x q with
                | some y' =>
                  rw [h1] at hq2
                  exact ihq (by rw [h1]; exact hq2)
                | none =>
                  rw [h1] at hq2
                  cases h2 : L[q]? with
                  | none =>
                    rw [h2] at hq2
                    cases hq2
                  | some y' =>
                    rw [h2] at hq2
                    have hq3 : (if M 171 y' = 2 ∧ fbL M y' = fbL M x then some y' else none) = some w := hq2
                    split at hq3
                    · rename_i hh
                      injection hq3 with hq3
                      rw [← hq3]
                      exact hh.2
                    · cases hq3
            have := H k tw
            rw [← fl w wb.2, ← fl x b.2, this]
          rw [es] at q
          have ec : ∀ v : Int, cpN (dN (dtD M op B L k)) x w v x = dN (dtD M op B L k) v w := fun v => if_pos rfl
          unfold flQ at q ⊢
          show (0 ≤ cpN (dN (dtD M op B L k)) x w 1 x ∧ cpN (dN (dtD M op B L k)) x w 1 x + bkN op B (M 180 x) ≤ (dB (dtD M op B L k)).length) ∧ cpN (dN (dtD M op B L k)) x w 2 x = bkN op B (M 180 x) ∧ cpN (dN (dtD M op B L k)) x w 3 x = zeB (dB (dtD M op B L k)) (cpN (dN (dtD M op B L k)) x w 1 x).toNat B (M 180 x) (bkN op B (M 180 x)).toNat ∧ (0 ≤ cpN (dN (dtD M op B L k)) x w 3 x ∧ cpN (dN (dtD M op B L k)) x w 3 x ≤ M 180 x)
          rw [ec, ec, ec]
          exact q
        · have ne : y ≠ x := fun q => by
            rw [q] at hy
            have := nd_inj hP.1 hy hx
            omega
          exact flQ_keep (ih i y (by omega) hy y2) ⟨[], (List.append_nil _).symm⟩ (fun j => if_neg ne)
    · rw [if_neg c]
      by_cases ei : i = k
      · rw [ei, hx] at hy
        injection hy with hy
        rw [← hy] at y2
        exact absurd y2 c
      · exact ih i y (by omega) hy y2
theorem dtE_f {M : FM} (hW : twR M) {L : List Int} (hP : nuP M L) (hB : bB5 B) {i : Nat} {y : Int} (hy : L[i]? = some y) (y2 : M 171 y = 2) : flQ op B (dtE M op B L) (M 180 y) y := by
  have il := (List.getElem?_eq_some_iff.1 hy).1
  have q := dtD_f (op := op) hW hP hB L.length (Nat.le_refl _) i y il hy y2
  have c := clD_n (op := op) (s := dtD M op B L L.length)
  exact flQ_keep q ⟨[], by unfold dtE; rw [c.2, List.append_nil]⟩ (fun j => by unfold dtE; rw [c.1])
end FILES
