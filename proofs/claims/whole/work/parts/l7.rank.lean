/-! PACKING: symbols ranked by their counts; both -/
def insR (c : Int → Int) (s : Int) : List Int → List Int
  | [] => [s]
  | x :: r => if c s < c x then s :: x :: r else x :: insR c s r
/-- the symbols below n that stand at all, in the order of their counts -/
def rkG (c : Int → Int) : Nat → List Int
  | 0 => []
  | n + 1 => if 0 < c n then insR c n (rkG c n) else rkG c n
theorem insR_eq {c : Int → Int} {s : Int} : ∀ (l : List Int) (k : Nat), k ≤ l.length → (∀ (i : Nat) (x : Int), l[i]? = some x → i < k → c x ≤ c s) → (∀ (i : Nat) (x : Int), l[i]? = some x → k ≤ i → c s < c x) → insR c s l = l.take k ++ s :: l.drop k
  | [], k, _, _, _ => by simp [insR]
  | y :: r, 0, _, _, h2 => by
    have := h2 0 y rfl (by omega)
    show (if c s < c y then s :: y :: r else y :: insR c s r) = _
    rw [if_pos this]
    rfl
  | y :: r, k + 1, h0, h1, h2 => by
    have := h1 0 y rfl (by omega)
    show (if c s < c y then s :: y :: r else y :: insR c s r) = _
    rw [if_neg (by omega)]
    have ih := insR_eq r k (by simp only [List.length_cons] at h0; omega) (fun i x hx hi => h1 (i + 1) x hx (by omega)) (fun i x hx hi => h2 (i + 1) x hx (by omega))
    rw [ih]
    rfl
theorem insR_mem {c : Int → Int} {s x : Int} : ∀ l : List Int, x ∈ insR c s l ↔ x = s ∨ x ∈ l
  | [] => by
    show x ∈ [s] ↔ x = s ∨ x ∈ []
    simp
  | y :: r => by
    show x ∈ (if c s < c y then s :: y :: r else y :: insR c s r) ↔ _
    split
    · simp
    · have ih := insR_mem (c := c) (s := s) (x := x) r
      rw [List.mem_cons, ih, List.mem_cons]
      constructor
      · rintro (h | h | h)
        · exact Or.inr (Or.inl h)
        · exact Or.inl h
        · exact Or.inr (Or.inr h)
      · rintro (h | h | h)
        · exact Or.inr (Or.inl h)
        · exact Or.inl h
        · exact Or.inr (Or.inr h)
def srC (c : Int → Int) (l : List Int) : Prop := ∀ (i j : Nat) (x y : Int), i ≤ j → l[i]? = some x → l[j]? = some y → c x ≤ c y
theorem srC_cons {c : Int → Int} {y : Int} {r : List Int} (h1 : ∀ x ∈ r, c y ≤ c x) (h2 : srC c r) : srC c (y :: r) := by
  intro i j a b hij ha hb
  cases j with
  | zero =>
    have : i = 0 := by omega
    rw [this] at ha
    have ea : y = a := by injection ha
    have eb : y = b := by injection hb
    rw [← ea, ← eb]
    exact Int.le_refl _
  | succ j =>
    cases i with
    | zero =>
      have ea : y = a := by injection ha
      rw [← ea]
      exact h1 b (List.mem_of_getElem? hb)
    | succ i => exact h2 i j a b (by omega) ha hb
theorem srC_tail {c : Int → Int} {y : Int} {r : List Int} (h : srC c (y :: r)) : srC c r ∧ ∀ x ∈ r, c y ≤ c x := by
  refine ⟨fun i j a b hij ha hb => h (i + 1) (j + 1) a b (by omega) ha hb, fun x hx => ?_⟩
  obtain ⟨i, hi⟩ := List.mem_iff_getElem?.1 hx
  exact h 0 (i + 1) y x (by omega) rfl hi
theorem insR_sr {c : Int → Int} {s : Int} : ∀ l : List Int, srC c l → srC c (insR c s l)
  | [], _ => by
    show srC c [s]
    exact srC_cons (fun x hx => by cases hx) (fun i j a b _ ha _ => by cases ha)
  | y :: r, h => by
    obtain ⟨h1, h2⟩ := srC_tail h
    show srC c (if c s < c y then s :: y :: r else y :: insR c s r)
    split
    · rename_i q
      refine srC_cons (fun x hx => ?_) h
      rcases List.mem_cons.1 hx with e | e
      · rw [e]
        omega
      · have := h2 x e
        omega
    · rename_i q
      refine srC_cons (fun x hx => ?_) (insR_sr r h1)
      rcases (insR_mem r).1 hx with e | e
      · rw [e]
        omega
      · exact h2 x e
theorem insR_len {c : Int → Int} {s : Int} : ∀ l : List Int, (insR c s l).length = l.length + 1
  | [] => rfl
  | y :: r => by
    show (if c s < c y then s :: y :: r else y :: insR c s r).length = _
    split
    · rfl
    · simp only [List.length_cons, insR_len r]
theorem rkG_p {c : Int → Int} : ∀ n : Nat, (rkG c n).length ≤ n ∧ srC c (rkG c n) ∧ ∀ x ∈ rkG c n, (0 ≤ x ∧ x < n) ∧ 0 < c x
  | 0 => by
    refine ⟨Nat.le_refl _, ?_, ?_⟩
    · intro i j a b _ ha _
      cases ha
    · intro x hx
      cases hx
  | n + 1 => by
    obtain ⟨h1, h2, h3⟩ := rkG_p (c := c) n
    have e : rkG c (n + 1) = if 0 < c n then insR c n (rkG c n) else rkG c n := rfl
    rw [e]
    split
    · rename_i q
      refine ⟨by rw [insR_len]; omega, insR_sr _ h2, fun x hx => ?_⟩
      rcases (insR_mem _).1 hx with e2 | e2
      · rw [e2]
        exact ⟨by omega, q⟩
      · obtain ⟨a1, a2⟩ := h3 x e2
        exact ⟨by omega, a2⟩
    · exact ⟨by omega, h2, fun x hx => by
        obtain ⟨a1, a2⟩ := h3 x hx
        exact ⟨by omega, a2⟩⟩
/-- a list as it lies in a row -/
def rkV (A : Int → Int) (l : List Int) : Prop := ∀ (i : Nat) (x : Int), l[i]? = some x → A i = x
/-- a place taken out of the way of s -/
def shV (A : Int → Int) (l : List Int) (k : Nat) : Prop := ∀ (i : Nat) (x : Int), l[i]? = some x → (i < k → A i = x) ∧ (k ≤ i → A ((i : Int) + 1) = x)
theorem shV_put {A : Int → Int} {l : List Int} {k : Nat} {s : Int} (h : shV A l k) (hk : k ≤ l.length) : rkV (ur A k s) (l.take k ++ s :: l.drop k) := by
  intro i x hx
  by_cases c1 : i < k
  · rw [List.getElem?_append_left (by rw [List.length_take]; omega), List.getElem?_take, if_pos c1] at hx
    rw [ur_ne (by omega)]
    exact (h i x hx).1 c1
  · rw [List.getElem?_append_right (by rw [List.length_take]; omega), List.length_take, show min k l.length = k by omega] at hx
    by_cases c2 : i = k
    · rw [c2, show k - k = 0 by omega] at hx
      have e : s = x := by injection hx
      rw [c2, ur_at, e]
    · obtain ⟨m, gm⟩ : ∃ m : Nat, i = k + m + 1 := ⟨i - k - 1, by omega⟩
      rw [gm, show k + m + 1 - k = m + 1 by omega] at hx
      have hx' : (l.drop k)[m]? = some x := hx
      rw [List.getElem?_drop] at hx'
      rw [ur_ne (by omega), gm]
      have := (h (k + m) x hx').2 (by omega)
      rw [show (((k + m : Nat) : Int) + 1) = ((k + m + 1 : Nat) : Int) by omega] at this
      exact this
theorem shV_mv {A : Int → Int} {l : List Int} {k : Nat} (h : shV A l (k + 1)) : shV (ur A ((k : Int) + 1) (A k)) l k := by
  intro i x hx
  refine ⟨fun c => ?_, fun c => ?_⟩
  · rw [ur_ne (by omega)]
    exact (h i x hx).1 (by omega)
  · by_cases e : i = k
    · rw [e, ur_at, ← e]
      exact (h i x hx).1 (by omega)
    · rw [ur_ne (by omega)]
      exact (h i x hx).2 (by omega)
section RANK
variable {d nx zl : Nat} {K : Option TV → FH → Prop} {sh : Nat → Option Shp} {M : FM}
theorem rankC_Y {cc n : Nat} {c : Int → Int} (hs : shp sh cc = some (.inl (.int, n))) (hn : n ≤ 286) (hcc : cc ≠ 65) (hc : ∀ s : Int, 0 ≤ s → s < n → M cc s = c s ∧ 0 ≤ c s ∧ c s ≤ 100000) (k : ∀ M2 : FM, (∀ x : Nat, x ≠ 65 → M2 x = M x) → rkV (M2 65) (rkG c n) → K (some (ti (rkG c n).length)) (sh, M2, nx, zl)) : fm_Y (d + 1) 82 [.ref 22, .ref cc] (sh, M, nx, zl) K := by
  refine m82 [fx 22, gr cc] ?_
  have L4 : ∀ (G s : Nat) (si : Int) (M1 : FM) (y4 : Option TV), ((n : Int) - si).toNat < G → si = s → s ≤ n → (∀ x : Nat, x ≠ 65 → M1 x = M x) → rkV (M1 65) (rkG c s) → fm_X d kd82 4 [some (fx 22), some (gr cc), some (ti (rkG c s).length), some (ti si), y4] [] (sh, M1, nx, zl) K := by
    intro G
    induction G with
    | zero => intro s si M1 y4 q; omega
    | succ G ih =>
      intro s si M1 y4 q1 q2 q3 F1 hv
      obtain ⟨r1, r2, r3⟩ := rkG_p (c := c) s
      have ec : M1 cc = M cc := F1 cc hcc
      refine s82_4 d K _ _ _ ?_
      refine ⟨_, _, hs, ?_⟩
      refine ⟨by omega, fun w => ?_, fun w => ?_⟩
      · rw [show n = s by omega] at k
        exact k M1 F1 hv
      obtain ⟨v1, v2, v3⟩ := hc si (by omega) (by omega)
      have eG : rkG c (s + 1) = if 0 < c s then insR c s (rkG c s) else rkG c s := rfl
      rw [← q2] at eG
      refine ⟨n, hs, ⟨by omega, by omega, by omega⟩, ?_⟩
      rw [ec, v1]
      refine ⟨by omega, fun u => ?_, fun u => ?_⟩
      · rw [if_neg (by omega)] at eG
        have T := ih (s + 1) (si + 1) M1 y4 (by omega) (by omega) (by omega) F1 (by rw [eG]; exact hv)
        rw [eG] at T
        exact T
      rw [if_pos (by omega)] at eG
      -- a place for it
      have L19 : ∀ (kk : Nat) (ki : Int) (M3 : FM), ki = kk → kk ≤ (rkG c s).length → (∀ x : Nat, x ≠ 65 → M3 x = M x) → shV (M3 65) (rkG c s) kk → (∀ (i : Nat) (x : Int), (rkG c s)[i]? = some x → kk ≤ i → c si < c x) → fm_X d kd82 19 [some (fx 22), some (gr cc), some (ti (rkG c s).length), some (ti si), some (ti ki)] [] (sh, M3, nx, zl) K := by
        intro kk
        induction kk with
        | zero =>
          intro ki M3 p1 p2 F3 hsv hgt
          have TL : b82_63 d (fW d kd82 K) K [some (fx 22), some (gr cc), some (ti (rkG c s).length), some (ti si), some (ti ki)] [] (sh, M3, nx, zl) := by
            refine ⟨by omega, ?_⟩
            obtain ⟨P, gP⟩ : ∃ P : FM, P = pq M3 65 ki si := ⟨_, rfl⟩
            have eI := insR_eq (c := c) (s := si) (rkG c s) 0 p2 (fun i x _ hi => by omega) hgt
            have T := ih (s + 1) (si + 1) P (some (ti ki)) (by omega) (by omega) (by omega) (fun x hx => by rw [gP, pq_o _ _ _ hx]; exact F3 x hx) (by
              rw [eG, eI, gP]
              unfold pq
              rw [um_at, p1]
              exact shV_put hsv p2)
            rw [eG, insR_len, gP] at T
            rw [show (((rkG c s).length + 1 : Nat) : Int) = ((rkG c s).length : Int) + 1 by omega] at T
            exact T
          refine s82_19 d K _ _ _ ?_
          exact ⟨by omega, fun _ => TL, fun z => by omega⟩
        | succ kk ih2 =>
          intro ki M3 p1 p2 F3 hsv hgt
          have ec3 : M3 cc = M cc := F3 cc hcc
          obtain ⟨x, hx⟩ : ∃ x : Int, (rkG c s)[kk]? = some x := ⟨_, List.getElem?_eq_getElem (by omega)⟩
          have xr := r3 x (List.mem_of_getElem? hx)
          have ax : M3 65 (ki - 1) = x := by
            have := (hsv kk x hx).1 (by omega)
            rw [show ki - 1 = (kk : Int) by omega]
            exact this
          obtain ⟨w1, w2, w3⟩ := hc x (by omega) (by omega)
          refine s82_19 d K _ _ _ ?_
          refine ⟨by omega, fun z => by omega, fun _ => ?_⟩
          refine ⟨by omega, ?_⟩
          rw [ax]
          refine ⟨n, hs, ⟨by omega, by omega, by omega⟩, ?_⟩
          refine ⟨n, hs, ⟨by omega, by omega, by omega⟩, ?_⟩
          rw [ec3, w1, v1]
          refine ⟨by omega, fun z => ?_, fun z => ?_⟩
          · refine ⟨by omega, ?_⟩
            obtain ⟨P, gP⟩ : ∃ P : FM, P = pq M3 65 ki si := ⟨_, rfl⟩
            have eI := insR_eq (c := c) (s := si) (rkG c s) (kk + 1) p2 (fun i y hy hi => by
              have := r2 i kk y x (by omega) hy hx
              omega) hgt
            have T := ih (s + 1) (si + 1) P (some (ti ki)) (by omega) (by omega) (by omega) (fun x hx => by rw [gP, pq_o _ _ _ hx]; exact F3 x hx) (by
              rw [eG, eI, gP]
              unfold pq
              rw [um_at, p1]
              exact shV_put hsv p2)
            rw [eG, insR_len, gP] at T
            rw [show (((rkG c s).length + 1 : Nat) : Int) = ((rkG c s).length : Int) + 1 by omega] at T
            exact T
          · refine ⟨by omega, ?_⟩
            refine ⟨by omega, ?_⟩
            obtain ⟨P, gP⟩ : ∃ P : FM, P = pq M3 65 ki (M3 65 (ki - 1)) := ⟨_, rfl⟩
            have T : fm_X d kd82 19 [some (fx 22), some (gr cc), some (ti (rkG c s).length), some (ti si), some (ti (ki + -1))] [] (sh, P, nx, zl) K := by
              refine ih2 (ki + -1) P (by omega) (by omega) (fun x hx => by rw [gP, pq_o _ _ _ hx]; exact F3 x hx) ?_ (fun i y hy hi => ?_)
              · rw [gP]
                unfold pq
                rw [um_at, show ki - 1 = (kk : Int) by omega, show ki = (kk : Int) + 1 by omega]
                exact shV_mv hsv
              · by_cases e : i = kk
                · rw [e, hx] at hy
                  injection hy with hy
                  rw [← hy]
                  omega
                · exact hgt i y hy (by omega)
            rw [gP] at T
            exact T
      refine L19 (rkG c s).length (rkG c s).length M1 rfl (Nat.le_refl _) F1 (fun i x hx => ⟨fun _ => hv i x hx, fun z => ?_⟩) (fun i x hx hi => ?_)
      · have := List.getElem?_eq_none (l := rkG c s) (i := i) z
        rw [hx] at this
        cases this
      · have := List.getElem?_eq_none (l := rkG c s) (i := i) hi
        rw [hx] at this
        cases this
  exact L4 _ 0 0 M _ (Nat.lt_succ_self _) rfl (by omega) (fun _ _ => rfl) (fun i x hx => by cases hx)
end RANK
