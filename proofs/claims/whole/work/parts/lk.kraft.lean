/-! PACKING: lengths make whole codes -/
/-- a list in the order of its weights -/
def srW (L : List (Bool × Int)) : Prop := ∀ i j : Nat, i ≤ j → j < L.length → wgt L i ≤ wgt L j
theorem mg_lb {w p : Nat → Int} {m k : Nat} {x : Int} : ∀ (g a b : Nat), g + a + b = m + k → a ≤ m → b ≤ k → (∀ i : Nat, a ≤ i → i < m → x ≤ w i) → (∀ i : Nat, b ≤ i → i < k → x ≤ p i) → ∀ q ∈ mgG w p m k g a b, x ≤ q.2
  | 0, _, _, _, _, _, _, _, q, hq => by cases hq
  | g + 1, a, b, h1, h2, h3, h4, h5, q, hq => by
    have e : mgG w p m k (g + 1) a b = if a < m ∧ (b = k ∨ w a ≤ p b) then (false, w a) :: mgG w p m k g (a + 1) b else (true, p b) :: mgG w p m k g a (b + 1) := rfl
    rw [e] at hq
    by_cases c : a < m ∧ (b = k ∨ w a ≤ p b)
    · rw [if_pos c] at hq
      rcases List.mem_cons.1 hq with y | y
      · rw [y]
        exact h4 a (Nat.le_refl _) c.1
      · exact mg_lb g (a + 1) b (by omega) (by omega) h3 (fun i i1 i2 => h4 i (by omega) i2) h5 q y
    · have hb : b < k := by
        by_cases e2 : b < k
        · exact e2
        · exact absurd ⟨by omega, Or.inl (by omega)⟩ c
      rw [if_neg c] at hq
      rcases List.mem_cons.1 hq with y | y
      · rw [y]
        exact h5 b (Nat.le_refl _) hb
      · exact mg_lb g a (b + 1) (by omega) h2 (by omega) h4 (fun i i1 i2 => h5 i (by omega) i2) q y
theorem srW_cons {q : Bool × Int} {L : List (Bool × Int)} (h1 : ∀ y ∈ L, q.2 ≤ y.2) (h2 : srW L) : srW (q :: L) := by
  intro i j hij hj
  rw [List.length_cons] at hj
  have w0 : wgt (q :: L) 0 = q.2 := rfl
  have ws : ∀ i : Nat, wgt (q :: L) (i + 1) = wgt L i := fun i => rfl
  cases j with
  | zero =>
    rw [show i = 0 by omega]
    omega
  | succ j =>
    cases i with
    | zero =>
      rw [w0, ws]
      unfold wgt
      rw [List.getElem?_eq_getElem (by omega)]
      exact h1 _ (List.getElem_mem _)
    | succ i =>
      rw [ws, ws]
      exact h2 i j (by omega) (by omega)
theorem mg_sorted {w p : Nat → Int} {m k : Nat} (hw : ∀ i j : Nat, i ≤ j → j < m → w i ≤ w j) (hp : ∀ i j : Nat, i ≤ j → j < k → p i ≤ p j) : ∀ (g a b : Nat), g + a + b = m + k → a ≤ m → b ≤ k → srW (mgG w p m k g a b)
  | 0, _, _, _, _, _ => fun i j _ hj => absurd hj (Nat.not_lt_zero _)
  | g + 1, a, b, h1, h2, h3 => by
    have e : mgG w p m k (g + 1) a b = if a < m ∧ (b = k ∨ w a ≤ p b) then (false, w a) :: mgG w p m k g (a + 1) b else (true, p b) :: mgG w p m k g a (b + 1) := rfl
    rw [e]
    by_cases c : a < m ∧ (b = k ∨ w a ≤ p b)
    · rw [if_pos c]
      refine srW_cons (mg_lb g (a + 1) b (by omega) (by omega) h3 (fun i i1 i2 => hw a i (by omega) i2) (fun i i1 i2 => ?_)) (mg_sorted hw hp g (a + 1) b (by omega) (by omega) h3)
      have := hp b i i1 i2
      show w a ≤ p i
      omega
    · have hb : b < k := by
        by_cases e2 : b < k
        · exact e2
        · exact absurd ⟨by omega, Or.inl (by omega)⟩ c
      rw [if_neg c]
      refine srW_cons (mg_lb g a (b + 1) (by omega) h2 (by omega) (fun i i1 i2 => ?_) (fun i i1 i2 => hp b i (by omega) i2)) (mg_sorted hw hp g a (b + 1) (by omega) h2 (by omega))
      have := hw a i i1 i2
      show p b ≤ w i
      omega
/-- behind the last pair that is taken no lighter symbol stands -/
theorem mg_last {w p : Nat → Int} {m k : Nat} (hw : ∀ i j : Nat, i ≤ j → j < m → w i ≤ w j) : ∀ (t g a b : Nat), t ≤ g → g + a + b = m + k → a ≤ m → b ≤ k → nF ((mgG w p m k g a b).take t) < t → a + nF ((mgG w p m k g a b).take t) < m → p (b + (t - nF ((mgG w p m k g a b).take t)) - 1) < w (a + nF ((mgG w p m k g a b).take t))
  | 0, g, a, b, _, _, _, _, h, _ => by omega
  | t + 1, 0, a, b, h, _, _, _, _, _ => by omega
  | t + 1, g + 1, a, b, h1, h2, h3, h4, h5, h6 => by
    have e : mgG w p m k (g + 1) a b = if a < m ∧ (b = k ∨ w a ≤ p b) then (false, w a) :: mgG w p m k g (a + 1) b else (true, p b) :: mgG w p m k g a (b + 1) := rfl
    rw [e] at h5 h6 ⊢
    by_cases c : a < m ∧ (b = k ∨ w a ≤ p b)
    · rw [if_pos c, List.take_succ_cons] at h5 h6 ⊢
      have e1 : nF ((false, w a) :: (mgG w p m k g (a + 1) b).take t) = 1 + nF ((mgG w p m k g (a + 1) b).take t) := rfl
      rw [e1] at h5 h6 ⊢
      have ih := mg_last (p := p) hw t g (a + 1) b (by omega) (by omega) (by omega) h4 (by omega) (by omega)
      rw [show a + (1 + nF ((mgG w p m k g (a + 1) b).take t)) = a + 1 + nF ((mgG w p m k g (a + 1) b).take t) by omega, show t + 1 - (1 + nF ((mgG w p m k g (a + 1) b).take t)) = t - nF ((mgG w p m k g (a + 1) b).take t) by omega]
      exact ih
    · have hb : b < k := by
        by_cases e2 : b < k
        · exact e2
        · exact absurd ⟨by omega, Or.inl (by omega)⟩ c
      rw [if_neg c, List.take_succ_cons] at h5 h6 ⊢
      have e1 : nF ((true, p b) :: (mgG w p m k g a (b + 1)).take t) = 0 + nF ((mgG w p m k g a (b + 1)).take t) := rfl
      rw [e1, Nat.zero_add] at h5 h6 ⊢
      by_cases c2 : nF ((mgG w p m k g a (b + 1)).take t) < t
      · have ih := mg_last (p := p) hw t g a (b + 1) (by omega) (by omega) h3 (by omega) c2 h6
        rw [show b + (t + 1 - nF ((mgG w p m k g a (b + 1)).take t)) - 1 = b + 1 + (t - nF ((mgG w p m k g a (b + 1)).take t)) - 1 by omega]
        exact ih
      · rw [show b + (t + 1 - nF ((mgG w p m k g a (b + 1)).take t)) - 1 = b by omega]
        have := hw a (a + nF ((mgG w p m k g a (b + 1)).take t)) (by omega) h6
        omega
/-- where the symbol of rank x stands -/
theorem mg_sg {w p : Nat → Int} {m k : Nat} : ∀ (t g a b x : Nat), t ≤ g → x < nF ((mgG w p m k g a b).take t) → ∃ i : Nat, i < t ∧ (mgG w p m k g a b)[i]? = some (false, w (a + x))
  | 0, g, a, b, x, _, h => by
    rw [List.take_zero] at h
    exact absurd h (Nat.not_lt_zero _)
  | t + 1, 0, a, b, x, h, _ => by omega
  | t + 1, g + 1, a, b, x, h1, h2 => by
    have e : mgG w p m k (g + 1) a b = if a < m ∧ (b = k ∨ w a ≤ p b) then (false, w a) :: mgG w p m k g (a + 1) b else (true, p b) :: mgG w p m k g a (b + 1) := rfl
    rw [e] at h2 ⊢
    by_cases c : a < m ∧ (b = k ∨ w a ≤ p b)
    · rw [if_pos c, List.take_succ_cons] at h2
      rw [if_pos c]
      have e1 : nF ((false, w a) :: (mgG w p m k g (a + 1) b).take t) = 1 + nF ((mgG w p m k g (a + 1) b).take t) := rfl
      rw [e1] at h2
      cases x with
      | zero => exact ⟨0, by omega, rfl⟩
      | succ x =>
        obtain ⟨i, i1, i2⟩ := mg_sg (w := w) (p := p) (m := m) (k := k) t g (a + 1) b x (by omega) (by omega)
        refine ⟨i + 1, by omega, ?_⟩
        rw [List.getElem?_cons_succ, i2, show a + 1 + x = a + (x + 1) by omega]
    · rw [if_neg c, List.take_succ_cons] at h2
      rw [if_neg c]
      have e1 : nF ((true, p b) :: (mgG w p m k g a (b + 1)).take t) = 0 + nF ((mgG w p m k g a (b + 1)).take t) := rfl
      rw [e1, Nat.zero_add] at h2
      obtain ⟨i, i1, i2⟩ := mg_sg (w := w) (p := p) (m := m) (k := k) t g a (b + 1) x (by omega) h2
      exact ⟨i + 1, by omega, i2⟩
section KRAFT
variable {w : Nat → Int} {m : Nat}
theorem pm_srt (hw : ∀ i j : Nat, i ≤ j → j < m → w i ≤ w j) : ∀ l : Nat, srW (pmL w m l)
  | 0 => mg_sorted hw (fun i j _ hj => absurd hj (Nat.not_lt_zero _)) m 0 0 (by omega) (by omega) (by omega)
  | l + 1 => by
    have ih := pm_srt hw l
    refine mg_sorted hw (fun i j hij hj => ?_) _ 0 0 (by omega) (by omega) (by omega)
    have a1 := ih (2 * i) (2 * j) (by omega) (by omega)
    have a2 := ih (2 * i + 1) (2 * j + 1) (by omega) (by omega)
    unfold prW
    omega
/-- one that is taken in a list is taken in the next too -/
theorem pm_mono (hw : ∀ i j : Nat, i ≤ j → j < m → w i ≤ w j) (h0 : ∀ i : Nat, i < m → 0 ≤ w i) {l t : Nat} (ht : t ≤ (pmL w m (l + 1)).length) : nSg (pmL w m l) (2 * (t - nSg (pmL w m (l + 1)) t)) ≤ nSg (pmL w m (l + 1)) t := by
  have srt := pm_srt hw l
  have sp := pm_sp ht
  have epv : pvL w m (l + 1) = pmL w m l := rfl
  rw [epv] at sp
  have sp0 := pm_sp (w := w) (m := m) (l := l) (t := 2 * (t - nSg (pmL w m (l + 1)) t)) sp.2.2
  have lenE : (pmL w m (l + 1)).length = m + (pmL w m l).length / 2 := mgG_len _ _ _
  obtain ⟨b, gb⟩ : ∃ b : Nat, b = t - nSg (pmL w m (l + 1)) t := ⟨_, rfl⟩
  obtain ⟨s, gs⟩ : ∃ s : Nat, s = nSg (pmL w m (l + 1)) t := ⟨_, rfl⟩
  rw [← gs] at sp
  rw [← gb] at sp0 ⊢
  rw [← gs] at gb ⊢
  rw [← gb] at sp
  by_cases c : nSg (pmL w m l) (2 * b) ≤ s
  · exact c
  · exfalso
    have b1 : 1 ≤ b := by
      by_cases e : 1 ≤ b
      · exact e
      · rw [show b = 0 by omega] at c
        simp [nSg, nF] at c
    -- the last pair
    have la := mg_last (p := prW (pmL w m l)) (k := (pmL w m l).length / 2) hw t (m + (pmL w m l).length / 2) 0 0 (by omega) (by omega) (by omega) (by omega)
    have eT : nF ((mgG w (prW (pmL w m l)) m ((pmL w m l).length / 2) (m + (pmL w m l).length / 2) 0 0).take t) = s := gs.symm
    rw [eT] at la
    have la2 := la (by omega) (by omega)
    rw [Nat.zero_add, Nat.zero_add, ← gb] at la2
    -- where the symbol stands below
    have e := pmL_pv w m l
    have ex : ∃ i : Nat, i < 2 * b ∧ (pmL w m l)[i]? = some (false, w s) := by
      have lenE2 : (pmL w m l).length = m + (pvL w m l).length / 2 := by rw [e, mgG_len]
      have := mg_sg (w := w) (p := prW (pvL w m l)) (m := m) (k := (pvL w m l).length / 2) (2 * b) (m + (pvL w m l).length / 2) 0 0 s (by omega) (by rw [← e]; show s < nSg (pmL w m l) (2 * b); omega)
      rw [← e, Nat.zero_add] at this
      exact this
    obtain ⟨i, i1, i2⟩ := ex
    have wi : wgt (pmL w m l) i = w s := by
      unfold wgt
      rw [i2]
    have le1 := srt i (2 * b - 1) (by omega) (by omega)
    have pos : 0 ≤ wgt (pmL w m l) (2 * (b - 1)) := by
      have lb := mg_lb (w := w) (p := prW (pvL w m l)) (m := m) (k := (pvL w m l).length / 2) (x := 0) (m + (pvL w m l).length / 2) 0 0 (by omega) (by omega) (by omega) (fun i _ hi => h0 i hi) ?_
      · rw [← e] at lb
        unfold wgt
        rw [List.getElem?_eq_getElem (by omega)]
        exact lb _ (List.getElem_mem _)
      · intro j _ hj
        have hall : ∀ q ∈ pvL w m l, 0 ≤ q.2 := by
          cases l with
          | zero => exact fun q hq => by cases hq
          | succ l =>
            have big : ∃ W : Int, 0 ≤ W ∧ ∀ i : Nat, i < m → 0 ≤ w i ∧ w i ≤ W := by
              by_cases m0 : m = 0
              · exact ⟨0, by omega, fun i hi => by omega⟩
              · exact ⟨w (m - 1), h0 _ (by omega), fun i hi => ⟨h0 i hi, hw i (m - 1) (by omega) (by omega)⟩⟩
            obtain ⟨W, W0, W1⟩ := big
            exact fun q hq => (pmL_b W0 W1 l q hq).1
        have wg : ∀ i : Nat, i < (pvL w m l).length → 0 ≤ wgt (pvL w m l) i := fun i hi => by
          unfold wgt
          rw [List.getElem?_eq_getElem hi]
          exact hall _ (List.getElem_mem _)
        have a1 := wg (2 * j) (by omega)
        have a2 := wg (2 * j + 1) (by omega)
        unfold prW
        omega
    have ep : prW (pmL w m l) (b - 1) = wgt (pmL w m l) (2 * (b - 1)) + wgt (pmL w m l) (2 * (b - 1) + 1) := rfl
    rw [show 2 * (b - 1) + 1 = 2 * b - 1 by omega] at ep
    rw [ep] at la2
    omega
/-- no length without the list above -/
theorem plG_up (hw : ∀ i j : Nat, i ≤ j → j < m → w i ≤ w j) (h0 : ∀ i : Nat, i < m → 0 ≤ w i) : ∀ (l t a : Nat), t ≤ (pmL w m l).length → nSg (pmL w m l) t ≤ a → plG w m (l + 1) t a = 0
  | 0, t, a, ht, ha => by
    show (if a < nSg (pmL w m 0) t then (1 : Int) else 0) + 0 = 0
    rw [if_neg (by omega)]
    rfl
  | l + 1, t, a, ht, ha => by
    have mo := pm_mono hw h0 ht
    have sp := (pm_sp ht).2.2
    have ih := plG_up hw h0 l (2 * (t - nSg (pmL w m (l + 1)) t)) a sp (by omega)
    show (if a < nSg (pmL w m (l + 1)) t then (1 : Int) else 0) + plG w m (l + 1) (2 * (t - nSg (pmL w m (l + 1)) t)) a = 0
    rw [if_neg (by omega), ih]
    rfl
def smF (g : Nat → Int) : Nat → Int
  | 0 => 0
  | n + 1 => smF g n + g n
theorem smF_cg {g h : Nat → Int} : ∀ n : Nat, (∀ i : Nat, i < n → g i = h i) → smF g n = smF h n
  | 0, _ => rfl
  | n + 1, e => by
    show smF g n + g n = smF h n + h n
    rw [smF_cg n (fun i hi => e i (by omega)), e n (by omega)]
theorem smF_add (g h : Nat → Int) : ∀ n : Nat, smF (fun i => g i + h i) n = smF g n + smF h n
  | 0 => rfl
  | n + 1 => by
    show smF (fun i => g i + h i) n + (g n + h n) = smF g n + g n + (smF h n + h n)
    rw [smF_add g h n]
    omega
theorem smF_lt (x : Int) (s : Nat) : ∀ n : Nat, smF (fun i => if i < s then x else 0) n = (min n s : Nat) * x
  | 0 => by
    show (0 : Int) = ((min 0 s : Nat) : Int) * x
    rw [Nat.zero_min, Int.natCast_zero, Int.zero_mul]
  | n + 1 => by
    show smF (fun i => if i < s then x else 0) n + (if n < s then x else 0) = _
    rw [smF_lt x s n]
    by_cases c : n < s
    · rw [if_pos c, show min n s = n by omega, show min (n + 1) s = n + 1 by omega, Int.natCast_add, Int.add_mul]
      show _ = _ + 1 * x
      omega
    · rw [if_neg c, show min n s = s by omega, show min (n + 1) s = s by omega, Int.add_zero]
/-- the widths that are taken -/
theorem kraft_pl (hw : ∀ i j : Nat, i ≤ j → j < m → w i ≤ w j) (h0 : ∀ i : Nat, i < m → 0 ≤ w i) : ∀ (l t : Nat), t ≤ (pmL w m l).length → smF (fun a => 2 ^ (l + 1) - 2 ^ (l + 1 - (plG w m (l + 1) t a).toNat)) m = t * 2 ^ l
  | 0, t, ht => by
    have sp := pm_sp ht
    have e : smF (fun a => (2 : Int) ^ (0 + 1) - 2 ^ (0 + 1 - (plG w m (0 + 1) t a).toNat)) m = smF (fun a => if a < nSg (pmL w m 0) t then 1 else 0) m := by
      refine smF_cg m (fun a ha => ?_)
      have e1 : plG w m (0 + 1) t a = (if a < nSg (pmL w m 0) t then 1 else 0) + 0 := rfl
      rw [e1]
      by_cases c : a < nSg (pmL w m 0) t
      · rw [if_pos c]
        rfl
      · rw [if_neg c]
        rfl
    have all : nSg (pmL w m 0) t = t := by
      have s2 : 2 * (t - nSg (pmL w m 0) t) ≤ 0 := sp.2.2
      omega
    rw [e, smF_lt, all, show min m t = t by omega]
    rfl
  | l + 1, t, ht => by
    have sp := pm_sp ht
    have epv : pvL w m (l + 1) = pmL w m l := rfl
    rw [epv] at sp
    have ih := kraft_pl hw h0 l (2 * (t - nSg (pmL w m (l + 1)) t)) sp.2.2
    have mo := pm_mono hw h0 ht
    obtain ⟨s, gs⟩ : ∃ s : Nat, s = nSg (pmL w m (l + 1)) t := ⟨_, rfl⟩
    rw [← gs] at ih sp mo
    have e : smF (fun a => (2 : Int) ^ (l + 1 + 1) - 2 ^ (l + 1 + 1 - (plG w m (l + 1 + 1) t a).toNat)) m = smF (fun a => (if a < s then (2 : Int) ^ (l + 1) else 0) + (2 ^ (l + 1) - 2 ^ (l + 1 - (plG w m (l + 1) (2 * (t - s)) a).toNat))) m := by
      refine smF_cg m (fun a ha => ?_)
      have e1 : plG w m (l + 1 + 1) t a = (if a < nSg (pmL w m (l + 1)) t then 1 else 0) + plG w m (l + 1) (2 * (t - nSg (pmL w m (l + 1)) t)) a := rfl
      rw [← gs] at e1
      have b := plG_b (w := w) (m := m) (l + 1) (2 * (t - s)) a
      rw [e1]
      by_cases c : a < s
      · rw [if_pos c, if_pos c, show l + 1 + 1 - (1 + plG w m (l + 1) (2 * (t - s)) a).toNat = l + 1 - (plG w m (l + 1) (2 * (t - s)) a).toNat by omega, Int.pow_succ (n := l + 1)]
        omega
      · have z := plG_up hw h0 l (2 * (t - s)) a sp.2.2 (by omega)
        rw [if_neg c, if_neg c, z]
        show (2 : Int) ^ (l + 1 + 1) - 2 ^ (l + 1 + 1) = 0 + (2 ^ (l + 1) - 2 ^ (l + 1))
        omega
    rw [e, smF_add, ih, smF_lt, show min m s = s by omega]
    have c1 : ((2 * (t - s) : Nat) : Int) * 2 ^ l = ((t - s : Nat) : Int) * 2 ^ (l + 1) := by
      rw [Int.pow_succ, show ((2 * (t - s) : Nat) : Int) = ((t - s : Nat) : Int) * 2 by omega, Int.mul_assoc, Int.mul_comm 2]
    rw [c1, ← Int.add_mul, show (s : Int) + ((t - s : Nat) : Int) = t by omega]
theorem smF_ge {x : Nat → Int} : ∀ n : Nat, (∀ i : Nat, i < n → 1 ≤ x i) → (n : Int) ≤ smF x n
  | 0, _ => by
    show ((0 : Nat) : Int) ≤ 0
    omega
  | n + 1, h => by
    have := smF_ge n (fun i hi => h i (by omega))
    have := h n (by omega)
    show ((n + 1 : Nat) : Int) ≤ smF x n + x n
    omega
theorem smF_ge1 {x : Nat → Int} : ∀ n : Nat, (∀ i : Nat, i < n → 1 ≤ x i) → ∀ a : Nat, a < n → x a + n ≤ smF x n + 1
  | 0, _, a, ha => by omega
  | n + 1, h, a, ha => by
    show x a + ((n + 1 : Nat) : Int) ≤ smF x n + x n + 1
    have h1 := h n (by omega)
    by_cases e : a = n
    · have := smF_ge n (fun i hi => h i (by omega))
      rw [e]
      omega
    · have := smF_ge1 n (fun i hi => h i (by omega)) a (by omega)
      omega
theorem smF_left (g : Nat → Int) : ∀ n : Nat, smF g (n + 1) = g 0 + smF (fun i => g (i + 1)) n
  | 0 => by
    show 0 + g 0 = g 0 + 0
    omega
  | n + 1 => by
    show smF g (n + 1) + g (n + 1) = g 0 + (smF (fun i => g (i + 1)) n + g (n + 1))
    rw [smF_left g n]
    omega
def lsumR (g : Int → Int) : List Int → Int
  | [] => 0
  | x :: r => g x + lsumR g r
theorem lsumR_smF {g : Int → Int} : ∀ (l : List Int) (G : Nat → Int), (∀ (a : Nat) (x : Int), l[a]? = some x → g x = G a) → lsumR g l = smF G l.length
  | [], _, _ => rfl
  | x :: r, G, h => by
    rw [List.length_cons, smF_left]
    show g x + lsumR g r = _
    rw [h 0 x rfl, lsumR_smF r (fun i => G (i + 1)) (fun a y hy => h (a + 1) y hy)]
theorem lsumR_ins {g c : Int → Int} {s : Int} : ∀ l : List Int, lsumR g (insR c s l) = g s + lsumR g l
  | [] => rfl
  | x :: r => by
    show lsumR g (if c s < c x then s :: x :: r else x :: insR c s r) = g s + (g x + lsumR g r)
    split
    · rfl
    · show g x + lsumR g (insR c s r) = _
      rw [lsumR_ins r]
      omega
theorem lsumR_rk {g c : Int → Int} : ∀ n : Nat, lsumR g (rkG c n) = smF (fun s => if 0 < c s then g s else 0) n
  | 0 => rfl
  | n + 1 => by
    have ih := lsumR_rk (g := g) (c := c) n
    show lsumR g (if 0 < c n then insR c n (rkG c n) else rkG c n) = smF (fun s => if 0 < c s then g s else 0) n + (if 0 < c n then g n else 0)
    by_cases e : 0 < c n
    · rw [if_pos e, if_pos e, lsumR_ins, ih]
      omega
    · rw [if_neg e, if_neg e, ih, Int.add_zero]
theorem cntsum {ls : Int → Int} {G : Nat → Int} {X : Nat → Nat → Int} (h0 : ∀ n : Nat, X n 0 = 0) (hs : ∀ n l : Nat, X n (l + 1) = X n l + cnt ls n (l + 1 : Nat) * G (l + 1)) : ∀ n l : Nat, X n l = smF (fun s => if 1 ≤ ls s ∧ ls s ≤ l then G (ls s).toNat else 0) n
  | 0, l => by
    show X 0 l = 0
    induction l with
    | zero => exact h0 0
    | succ l ih =>
      rw [hs, ih]
      show 0 + 0 * G (l + 1) = 0
      rw [Int.zero_mul]
      rfl
  | n + 1, l => by
    show X (n + 1) l = smF (fun s => if 1 ≤ ls s ∧ ls s ≤ l then G (ls s).toNat else 0) n + (if 1 ≤ ls n ∧ ls n ≤ l then G (ls n).toNat else 0)
    rw [← cntsum h0 hs n l]
    induction l with
    | zero =>
      rw [h0, h0, if_neg (by omega)]
      rfl
    | succ l ih =>
      rw [hs, hs, ih]
      have e : cnt ls (n + 1) (l + 1 : Nat) = cnt ls n (l + 1 : Nat) + (if ls n = (l + 1 : Nat) then 1 else 0) := rfl
      rw [e, Int.add_mul]
      by_cases c : ls n = (l + 1 : Nat)
      · rw [if_pos c, if_neg (by omega), if_pos (by omega), Int.one_mul, show (ls n).toNat = l + 1 by omega]
        omega
      · rw [if_neg c, Int.zero_mul]
        by_cases c2 : 1 ≤ ls n ∧ ls n ≤ l
        · rw [if_pos c2, if_pos (by omega)]
          omega
        · rw [if_neg c2, if_neg (by omega)]
          omega
theorem sumL_smF (ls : Int → Int) (n : Nat) (h : ∀ s : Nat, s < n → 0 ≤ ls s ∧ ls s ≤ 15) : sumL ls n 15 = smF (fun s => if 0 < ls s then 2 ^ (15 - (ls s).toNat) else 0) n := by
  rw [cntsum (ls := ls) (G := fun l => 2 ^ (15 - l)) (X := sumL ls) (fun _ => rfl) (fun _ _ => rfl) n 15]
  refine smF_cg n (fun s hs => ?_)
  have := h s hs
  by_cases c : 0 < ls s
  · rw [if_pos c, if_pos (by omega)]
  · rw [if_neg c, if_neg (by omega)]
theorem offL_smF (ls : Int → Int) (n : Nat) (h : ∀ s : Nat, s < n → 0 ≤ ls s ∧ ls s ≤ 15) : offL ls n 15 = smF (fun s => if 0 < ls s then 1 else 0) n := by
  rw [cntsum (ls := ls) (G := fun _ => 1) (X := offL ls) (fun _ => rfl) (fun n l => by rw [Int.mul_one]; rfl) n 15]
  refine smF_cg n (fun s hs => ?_)
  have := h s hs
  by_cases c : 0 < ls s
  · rw [if_pos c, if_pos (by omega)]
  · rw [if_neg c, if_neg (by omega)]
end KRAFT
section KRAFT2
variable {c : Int → Int} {n li : Nat}
theorem wOf_s : ∀ i j : Nat, i ≤ j → j < (rkG c n).length → wOf c (rkG c n) i ≤ wOf c (rkG c n) j := by
  intro i j hij hj
  have sr := (rkG_p (c := c) n).2.1
  obtain ⟨x, hx⟩ : ∃ x : Int, (rkG c n)[i]? = some x := ⟨_, List.getElem?_eq_getElem (by omega)⟩
  obtain ⟨y, hy⟩ : ∃ y : Int, (rkG c n)[j]? = some y := ⟨_, List.getElem?_eq_getElem (by omega)⟩
  unfold wOf
  rw [hx, hy]
  exact sr i j x y hij hx hy
theorem wOf_p : ∀ i : Nat, i < (rkG c n).length → 0 ≤ wOf c (rkG c n) i := by
  intro i hi
  obtain ⟨x, hx⟩ : ∃ x : Int, (rkG c n)[i]? = some x := ⟨_, List.getElem?_eq_getElem (by omega)⟩
  have := ((rkG_p (c := c) n).2.2 x (List.mem_of_getElem? hx)).2
  unfold wOf
  rw [hx]
  show 0 ≤ c x
  omega
theorem krA (hm : 2 ≤ (rkG c n).length) (hli : 1 ≤ li) (hbig : (n - 1) / 2 ^ (li - 1) ≤ 1) : smF (fun a => 2 ^ (li - (vLn c n li a).toNat)) (rkG c n).length = 2 ^ li := by
  have rl := (rkG_p (c := c) n).1
  have big2 : ((rkG c n).length - 1) / 2 ^ (li - 1) ≤ 1 := Nat.le_trans (Nat.div_le_div_right (by omega)) hbig
  have hv : ∀ a : Nat, vLn c n li a = plG (wOf c (rkG c n)) (rkG c n).length li (2 * (rkG c n).length - 2) a := by
    intro a
    unfold vLn
    rw [if_neg (by omega)]
  have ws := wOf_s (c := c) (n := n)
  have wp := wOf_p (c := c) (n := n)
  obtain ⟨m, gm⟩ : ∃ m : Nat, m = (rkG c n).length := ⟨_, rfl⟩
  obtain ⟨w, gw⟩ : ∃ w : Nat → Int, w = wOf c (rkG c n) := ⟨_, rfl⟩
  rw [← gm] at hm big2 hv ws wp ⊢
  rw [← gw] at hv ws wp
  obtain ⟨l, gl⟩ : ∃ l : Nat, li = l + 1 := ⟨li - 1, by omega⟩
  have en := pm_enough (w := w) (m := m) (by omega) l
  rw [gl, show l + 1 - 1 = l by omega] at big2
  have kp := kraft_pl ws wp l (2 * m - 2) (by omega)
  rw [← gl] at kp
  have cst : smF (fun a => if a < m then (2 : Int) ^ li else 0) m = m * 2 ^ li := by rw [smF_lt, show min m m = m by omega]
  have sum : smF (fun a => if a < m then (2 : Int) ^ li else 0) m = smF (fun a => 2 ^ li - 2 ^ (li - (plG w m li (2 * m - 2) a).toNat)) m + smF (fun a => 2 ^ (li - (vLn c n li a).toNat)) m := by
    rw [← smF_add]
    refine smF_cg m (fun a ha => ?_)
    rw [if_pos ha, hv a]
    omega
  have fin : ((2 * m - 2 : Nat) : Int) * 2 ^ l = (m : Int) * 2 ^ li - 2 ^ li := by
    rw [gl, Int.pow_succ, show ((2 * m - 2 : Nat) : Int) = ((m : Int) - 1) * 2 by omega, Int.mul_assoc, Int.mul_comm 2, Int.sub_mul]
    omega
  rw [cst, kp, fin] at sum
  omega
theorem vLn_pos (hli : 1 ≤ li) (hbig : (n - 1) / 2 ^ (li - 1) ≤ 1) {a : Nat} (ha : a < (rkG c n).length) : 1 ≤ vLn c n li a := by
  by_cases e : (rkG c n).length = 1
  · unfold vLn
    rw [if_pos e]
    omega
  · have k := krA (c := c) (n := n) (by omega) hli hbig
    have g := smF_ge1 (x := fun a => 2 ^ (li - (vLn c n li a).toNat)) (rkG c n).length (fun i _ => by have := two_pos (li - (vLn c n li i).toNat); omega) a ha
    rw [k] at g
    by_cases c2 : 1 ≤ vLn c n li a
    · exact c2
    · exfalso
      have z : (vLn c n li a).toNat = 0 := by omega
      rw [z, Nat.sub_zero] at g
      omega
theorem lgF_rk {a : Nat} {x : Int} (h : (rkG c n)[a]? = some x) : lgF c n li x = vLn c n li a := by
  have hx := List.mem_of_getElem? h
  unfold lgF
  rw [if_pos hx]
  congr 1
  have l1 := List.idxOf_lt_length_of_mem hx
  exact nd_inj (rkG_nd (c := c) n) (by rw [List.getElem?_eq_getElem l1, List.getElem_idxOf l1]) h
theorem rk_mem : ∀ (n : Nat) {s : Nat}, s < n → 0 < c s → (s : Int) ∈ rkG c n
  | 0, s, h, _ => by omega
  | n + 1, s, h, hc => by
    show (s : Int) ∈ (if 0 < c n then insR c n (rkG c n) else rkG c n)
    by_cases e : s = n
    · rw [← e, if_pos hc]
      exact (insR_mem _).2 (Or.inl rfl)
    · have ih := rk_mem n (s := s) (by omega) hc
      split
      · exact (insR_mem _).2 (Or.inr ih)
      · exact ih
theorem lgF_pos (hli : 1 ≤ li) (hbig : (n - 1) / 2 ^ (li - 1) ≤ 1) {s : Nat} (hs : s < n) : 0 < lgF c n li s ↔ 0 < c s := by
  constructor
  · intro h
    unfold lgF at h
    by_cases e : (s : Int) ∈ rkG c n
    · exact ((rkG_p (c := c) n).2.2 _ e).2
    · rw [if_neg e] at h
      omega
  · intro h
    have hm := rk_mem n hs h
    obtain ⟨a, ha⟩ := List.mem_iff_getElem?.1 hm
    rw [lgF_rk ha]
    have := vLn_pos (c := c) hli hbig (a := a) (List.getElem?_eq_some_iff.1 ha).1
    omega
theorem lg_sum (G : Int → Int) (h0 : G 0 = 0) (hli : 1 ≤ li) (hbig : (n - 1) / 2 ^ (li - 1) ≤ 1) : smF (fun s => G (lgF c n li s)) n = smF (fun a => G (vLn c n li a)) (rkG c n).length := by
  rw [← lsumR_smF (g := fun x => G (lgF c n li x)) (rkG c n) (fun a => G (vLn c n li a)) (fun a x hx => by rw [lgF_rk hx]), lsumR_rk]
  refine smF_cg n (fun s hs => ?_)
  by_cases e : 0 < c s
  · rw [if_pos e]
  · rw [if_neg e]
    have := (lgF_pos (c := c) hli hbig hs).1
    have b := (lgF_b (c := c) (n := n) hli s).1
    rw [show lgF c n li s = 0 by omega, h0]
theorem lg_ok (hli : 1 ≤ li ∧ li ≤ 15) (hbig : (n - 1) / 2 ^ (li - 1) ≤ 1) : (2 ≤ (rkG c n).length → sumL (lgF c n li) n 15 = 32768) ∧ ((rkG c n).length = 1 → offL (lgF c n li) n 15 = 1 ∧ cnt (lgF c n li) n 1 = 1 ∧ sumL (lgF c n li) n 15 = 16384) ∧ ((rkG c n).length = 0 → offL (lgF c n li) n 15 = 0 ∧ sumL (lgF c n li) n 15 = 0) := by
  have bb : ∀ s : Nat, s < n → 0 ≤ lgF c n li s ∧ lgF c n li s ≤ 15 := fun s _ => by
    have := lgF_b (c := c) (n := n) hli.1 s
    omega
  have S := lg_sum (c := c) (n := n) (li := li) (fun v => if 0 < v then 2 ^ (15 - v.toNat) else 0) rfl hli.1 hbig
  have O := lg_sum (c := c) (n := n) (li := li) (fun v => if 0 < v then 1 else 0) rfl hli.1 hbig
  have C := lg_sum (c := c) (n := n) (li := li) (fun v => if v = 1 then 1 else 0) rfl hli.1 hbig
  rw [← sumL_smF _ _ bb] at S
  rw [← offL_smF _ _ bb] at O
  have C2 : ∀ k : Nat, cnt (lgF c n li) k 1 = smF (fun s => if lgF c n li s = 1 then 1 else 0) k := by
    intro k
    induction k with
    | zero => rfl
    | succ k ih =>
      show cnt (lgF c n li) k 1 + (if lgF c n li k = 1 then 1 else 0) = smF (fun s => if lgF c n li s = 1 then 1 else 0) k + _
      rw [ih]
  rw [← C2] at C
  refine ⟨fun hm => ?_, fun hm => ?_, fun hm => ?_⟩
  · have k := krA (c := c) (n := n) hm hli.1 hbig
    have e : smF (fun a => if 0 < vLn c n li a then (2 : Int) ^ (15 - (vLn c n li a).toNat) else 0) (rkG c n).length = 2 ^ (15 - li) * smF (fun a => 2 ^ (li - (vLn c n li a).toNat)) (rkG c n).length := by
      have mulS : ∀ (y : Int) (g : Nat → Int) (k : Nat), y * smF g k = smF (fun i => y * g i) k := by
        intro y g k
        induction k with
        | zero => exact Int.mul_zero y
        | succ k ih =>
          show y * (smF g k + g k) = smF (fun i => y * g i) k + y * g k
          rw [Int.mul_add, ih]
      rw [mulS]
      refine smF_cg _ (fun a ha => ?_)
      have p := vLn_pos (c := c) hli.1 hbig ha
      have b : vLn c n li a ≤ li := by
        unfold vLn
        have := plG_b (w := wOf c (rkG c n)) (m := (rkG c n).length) li (2 * (rkG c n).length - 2) a
        split <;> omega
      rw [if_pos (by omega), ← Int.pow_add, show 15 - li + (li - (vLn c n li a).toNat) = 15 - (vLn c n li a).toNat by omega]
    rw [S, e, k, ← Int.pow_add, show 15 - li + li = 15 by omega]
    decide
  · have v1 : vLn c n li 0 = 1 := by
      unfold vLn
      rw [if_pos hm]
    rw [hm] at S O C
    rw [S, O, C]
    have f1 : ∀ g : Nat → Int, smF g 1 = 0 + g 0 := fun g => rfl
    rw [f1, f1, f1, v1]
    exact ⟨rfl, rfl, rfl⟩
  · rw [hm] at S O
    exact ⟨O, S⟩
theorem okL_lg (hli : 1 ≤ li ∧ li ≤ 15) (hbig : (n - 1) / 2 ^ (li - 1) ≤ 1) {z : Int} (hz : 1 ≤ (rkG c n).length ∨ z ≠ 0) : okL (lgF c n li) n z := by
  obtain ⟨k2, k1, k0⟩ := lg_ok (c := c) (n := n) hli hbig
  unfold okL
  by_cases e2 : 2 ≤ (rkG c n).length
  · exact Or.inl (k2 e2)
  · by_cases e1 : (rkG c n).length = 1
    · exact Or.inr (Or.inl ⟨(k1 e1).1, (k1 e1).2.1⟩)
    · exact Or.inr (Or.inr ⟨(k0 (by omega)).1, by omega⟩)
theorem sumL_lg (hli : 1 ≤ li ∧ li ≤ 15) (hbig : (n - 1) / 2 ^ (li - 1) ≤ 1) : sumL (lgF c n li) n 15 ≤ 32768 := by
  obtain ⟨k2, k1, k0⟩ := lg_ok (c := c) (n := n) hli hbig
  by_cases e2 : 2 ≤ (rkG c n).length
  · have := k2 e2
    omega
  · by_cases e1 : (rkG c n).length = 1
    · have := (k1 e1).2.2
      omega
    · have := (k0 (by omega)).2
      omega
end KRAFT2
/-- the first code of a length, and the sum up to it -/
theorem fst_sum (ls : Int → Int) (n : Nat) : ∀ l : Nat, 1 ≤ l → l ≤ 15 → 2 ^ (15 - l) * (fstL ls n l + cnt ls n l) = sumL ls n l
  | 0, h, _ => by omega
  | 1, _, _ => by
    show (2 : Int) ^ (15 - 1) * (2 * (0 + 0) + cnt ls n (1 : Nat)) = 0 + cnt ls n (0 + 1 : Nat) * 2 ^ (15 - (0 + 1))
    rw [Int.mul_comm]
    show (2 * (0 + 0) + cnt ls n (1 : Nat)) * (2 : Int) ^ 14 = 0 + cnt ls n (1 : Nat) * 2 ^ 14
    omega
  | l + 2, _, h => by
    have ih := fst_sum ls n (l + 1) (by omega) (by omega)
    show 2 ^ (15 - (l + 2)) * (2 * (fstL ls n (l + 1) + (if l + 1 = 0 then 0 else cnt ls n (l + 1 : Nat))) + cnt ls n (l + 2 : Nat)) = sumL ls n (l + 1) + cnt ls n (l + 1 + 1 : Nat) * 2 ^ (15 - (l + 1 + 1))
    rw [if_neg (by omega), ← ih, Int.mul_add, ← Int.mul_assoc, ← Int.pow_succ, show (15 - (l + 2)).succ = 15 - (l + 1) by omega, Int.mul_comm (cnt ls n _)]
theorem cdC_lt {ls : Int → Int} {n s : Nat} (h : sumL ls n 15 ≤ 32768) (hs : s < n) (h0 : 0 < ls s) (h1 : ls s ≤ 15) : 0 ≤ cdC ls n s ∧ cdC ls n s < 2 ^ (ls s).toNat := by
  obtain ⟨L, gL⟩ : ∃ L : Nat, ls s = L := ⟨(ls s).toNat, by omega⟩
  have fs := fst_sum ls n L (by omega) (by omega)
  have ct := cntLt ls L n s hs gL
  have cn := cnt_nn ls L s
  have f0 := (fstL_r ls n L).1
  have mono : ∀ k : Nat, sumL ls n L ≤ sumL ls n (L + k) := by
    intro k
    induction k with
    | zero => exact Int.le_refl _
    | succ k ih =>
      have c1 := (cnt_nn ls (L + k + 1 : Nat) n).1
      have p1 := two_pos (15 - (L + k + 1))
      have := Int.mul_nonneg c1 (Int.le_of_lt p1)
      show sumL ls n L ≤ sumL ls n (L + k) + cnt ls n (L + k + 1 : Nat) * 2 ^ (15 - (L + k + 1))
      omega
  have m15 := mono (15 - L)
  rw [show L + (15 - L) = 15 by omega] at m15
  unfold cdC
  rw [gL, show (L : Int).toNat = L by omega]
  refine ⟨by omega, ?_⟩
  have e32 : (32768 : Int) = 2 ^ (15 - L) * 2 ^ L := by
    rw [← Int.pow_add, show 15 - L + L = 15 by omega]
    decide
  have le : 2 ^ (15 - L) * (fstL ls n L + cnt ls n L) ≤ 2 ^ (15 - L) * 2 ^ L := by omega
  have := Int.le_of_mul_le_mul_left le (two_pos _)
  omega
