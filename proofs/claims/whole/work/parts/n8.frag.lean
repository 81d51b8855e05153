/-! FREEZING: whether a file has a fragment; numbers read in bytes -/
def frQ (op : Int) (B : Nat) (s : DS) (n x : Int) : Prop := (rsN op B n = 0 → dN s 4 x = -1) ∧ (rsN op B n ≠ 0 → 0 ≤ dN s 4 x)
theorem frQ_keep {op : Int} {B : Nat} {s t : DS} {n y : Int} (h : frQ op B s n y) (e : dN t 4 y = dN s 4 y) : frQ op B t n y := by
  unfold frQ at *
  rw [e]
  exact h
section FRAG
variable {op : Int} {B : Nat}
theorem bkD_4 (X : List Int) (x : Int) (s : DS) : ∀ i : Nat, dN (bkD op B X x s i) 4 x = dN s 4 x
  | 0 => rfl
  | i + 1 => by
    have ih := bkD_4 X x s i
    show dN (pbD op (bkD op B X x s i) x (chk X B i)) 4 x = dN s 4 x
    unfold pbD
    unfold dN
    dsimp only
    rw [setN_ne (Or.inl (by decide)), setN_ne (Or.inl (by decide))]
    exact ih
theorem fiD_4 (X : List Int) (x : Int) (s : DS) : frQ op B (fiD op B X x s) X.length x := by
  unfold fiD fiR
  obtain ⟨t, ht⟩ : ∃ t, t = bkD op B X x (fi0 op B X x s) (bkN op B X.length).toNat := ⟨_, rfl⟩
  have e : dN t 4 x = -1 := by
    rw [ht, bkD_4]
    show setN (setN _ 4 x (-1)) 5 x 0 4 x = -1
    rw [setN_ne (Or.inl (by decide)), setN_at]
  rw [← ht]
  by_cases c : rsN op B X.length = 0
  · rw [if_pos c]
    exact ⟨fun _ => e, fun q => absurd c q⟩
  · rw [if_neg c]
    refine ⟨fun q => absurd q c, fun _ => ?_⟩
    unfold dN
    dsimp only
    rw [setN_ne (Or.inl (by decide)), setN_at]
    omega
theorem dtD_g {M : FM} (hW : twR M) {L : List Int} (hP : nuP M L) (hB : bB5 B) : ∀ k : Nat, k ≤ L.length → ∀ (i : Nat) (y : Int), i < k → L[i]? = some y → M 171 y = 2 → frQ op B (dtD M op B L k) (M 180 y) y
  | 0, _, i, y, hi, _, _ => by omega
  | k + 1, hk, i, y, hi, hy, y2 => by
    have ih := dtD_g hW hP hB k (by omega)
    obtain ⟨Q1, Q0⟩ := dtD_q (op := op) hW hP hB k (by omega)
    have LL := nuP_len hW hP
    have sz := szS_le2 hW hP (k + 1)
    obtain ⟨x, hx⟩ : ∃ x, L[k]? = some x := ⟨_, List.getElem?_eq_getElem (by omega)⟩
    have xl := (hP.2 x (List.mem_of_getElem? hx)).1
    have b := (hW.2.1.2 x xl.1 xl.2).1
    have e : szS M L (k + 1) = szS M L k + (if M 171 x = 2 then M 180 x else 0) := by
      show szS M L k + (match L[k]? with
        | none => 0
        | some x => if M 171 x = 2 then M 180 x else 0) = _
      rw [hx]
    have e2 : dtD M op B L (k + 1) = dtX M op B L k (dtD M op B L k) x := by
      show (match L[k]? with
        | none => dtD M op B L k
        | some x => dtX M op B L k (dtD M op B L k) x) = _
      rw [hx]
    have fl : ∀ z : Int, 0 ≤ M 180 z → ((fbL M z).length : Int) = M 180 z := fun z hz => by
      unfold fbL
      rw [sl_len]
      omega
    rw [e2]
    unfold dtX
    by_cases c : M 171 x = 2
    · rw [if_pos c]
      rw [e, if_pos c] at sz
      cases tw : twX M L x k with
      | none =>
        show frQ op B (fiD op B (fbL M x) x (dtD M op B L k)) (M 180 y) y
        by_cases ei : i = k
        · rw [ei, hx] at hy
          injection hy with hy
          rw [← hy]
          have := fiD_4 (op := op) (B := B) (fbL M x) x (dtD M op B L k)
          rw [fl x b.2] at this
          exact this
        · have ne : y ≠ x := fun q => by
            rw [q] at hy
            have := nd_inj hP.1 hy hx
            omega
          exact frQ_keep (ih i y (by omega) hy y2) (fiD_o ne)
      | some w =>
        show frQ op B (dI (dtD M op B L k), dB (dtD M op B L k), dF (dtD M op B L k), dT (dtD M op B L k), cpN (dN (dtD M op B L k)) x w) (M 180 y) y
        by_cases ei : i = k
        · rw [ei, hx] at hy
          injection hy with hy
          rw [← hy]
          obtain ⟨w2, j, j1, j2⟩ := twX_in k tw
          have q := ih j w j1 j2 w2
          have wl := (hP.2 w (List.mem_of_getElem? j2)).1
          have wb := (hW.2.1.2 w wl.1 wl.2).1
          have es : M 180 w = M 180 x := by
            have H : ∀ q : Nat, twX M L x q = some w → fbL M w = fbL M x := by
              intro q
              induction q with
              | zero => intro hq; cases hq
              | succ q ihq =>
                intro hq
                have hq2 : (match twX M L x q with
                  | some y => some y
                  | none => match L[q]? with
                    | some y => if M 171 y = 2 ∧ fbL M y = fbL M x then some y else none
                    | none => none) = some w := hq
                cases h1 : twX M L x q with
                | some y' =>
                  rw [h1] at hq2
                  exact ihq (by rw [h1]; exact hq2)
                | none =>
                  rw [h1] at hq2
                  cases h2 : L[q]? with
                  | none =>
                    rw [h2] at hq2
                    cases hq2
                  | some y' =>
                    rw [h2] at hq2
                    have hq3 : (if M 171 y' = 2 ∧ fbL M y' = fbL M x then some y' else none) = some w := hq2
                    split at hq3
                    · rename_i hh
                      injection hq3 with hq3
                      rw [← hq3]
                      exact hh.2
                    · cases hq3
            have := H k tw
            rw [← fl w wb.2, ← fl x b.2, this]
          rw [es] at q
          have ec : ∀ v : Int, cpN (dN (dtD M op B L k)) x w v x = dN (dtD M op B L k) v w := fun v => if_pos rfl
          unfold frQ at q ⊢
          show (rsN op B (M 180 x) = 0 → cpN (dN (dtD M op B L k)) x w 4 x = -1) ∧ (rsN op B (M 180 x) ≠ 0 → 0 ≤ cpN (dN (dtD M op B L k)) x w 4 x)
          rw [ec]
          exact q
        · have ne : y ≠ x := fun q => by
            rw [q] at hy
            have := nd_inj hP.1 hy hx
            omega
          exact frQ_keep (ih i y (by omega) hy y2) (if_neg ne)
    · rw [if_neg c]
      by_cases ei : i = k
      · rw [ei, hx] at hy
        injection hy with hy
        rw [← hy] at y2
        exact absurd y2 c
      · exact ih i y (by omega) hy y2
theorem dtE_g {M : FM} (hW : twR M) {L : List Int} (hP : nuP M L) (hB : bB5 B) {i : Nat} {y : Int} (hy : L[i]? = some y) (y2 : M 171 y = 2) : frQ op B (dtE M op B L) (M 180 y) y := by
  have li : i < L.length := (List.getElem?_eq_some_iff.1 hy).1
  refine frQ_keep (dtD_g hW hP hB L.length (Nat.le_refl _) i y li hy y2) ?_
  unfold dtE
  rw [(clD_n (op := op)).1]
end FRAG
/-- bytes in the midst of a row -/
theorem sl_mid {f : Int → Int} {X A Y C : List Int} (h : sl f 0 X.length = X) (e : X = A ++ (Y ++ C)) : sl f A.length Y.length = Y := by
  rw [e, List.length_append, List.length_append, sl_add, sl_add] at h
  have h2 := (List.append_inj h (by rw [sl_len])).2
  have h3 := (List.append_inj h2 (by rw [sl_len])).1
  rw [Int.zero_add] at h3
  exact h3
theorem sl_lf {X A Y C : List Int} (e : X = A ++ (Y ++ C)) (hr : ∀ y ∈ X, 0 ≤ y ∧ y < 256) : sl (lf X) A.length Y.length = Y := by
  refine sl_mid (X := X) ?_ e
  refine sl_of (fun i x hx => ?_)
  unfold lf
  rw [Int.toNat_natCast, hx]
  have := hr x (List.mem_of_getElem? hx)
  show x % 256 = x
  omega
/-- a number's bytes tell it -/
theorem le_l2 {f : Int → Int} {p v : Int} (h : sl f p 2 = leL v 2) : le f p 2 = v % 65536 := by
  have h2 : [f p % 256, f (p + 1) % 256] = [v % 256, v / 256 % 256] := h
  injection h2 with e0 h2
  injection h2 with e1 h2
  rw [le_2, e0, e1]
  omega
theorem le_l8 {f : Int → Int} {p v : Int} (h : sl f p 8 = leL v 8) : le f p 8 = v % 18446744073709551616 := by
  have e : leL v 8 = leL v 4 ++ leL (v / 4294967296) 4 := by
    show [v % 256, v / 256 % 256, v / 256 / 256 % 256, v / 256 / 256 / 256 % 256, v / 256 / 256 / 256 / 256 % 256, v / 256 / 256 / 256 / 256 / 256 % 256, v / 256 / 256 / 256 / 256 / 256 / 256 % 256, v / 256 / 256 / 256 / 256 / 256 / 256 / 256 % 256] = [v % 256, v / 256 % 256, v / 256 / 256 % 256, v / 256 / 256 / 256 % 256, v / 4294967296 % 256, v / 4294967296 / 256 % 256, v / 4294967296 / 256 / 256 % 256, v / 4294967296 / 256 / 256 / 256 % 256]
    rw [show v / 256 / 256 / 256 / 256 = v / 4294967296 by omega]
  rw [e, show (8 : Nat) = 4 + 4 from rfl, sl_add] at h
  obtain ⟨h1, h2⟩ := List.append_inj h (by rw [sl_len, leL_len])
  have h3 := le_leL h2
  rw [show p + ((4 : Nat) : Int) = p + 4 from rfl] at h3
  rw [le_8, le_leL h1, h3]
  omega
