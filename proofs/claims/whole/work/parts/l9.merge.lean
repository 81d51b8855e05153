/-! PACKING: lengths of codes; lists of symbols and pairs -/
/-- m weights w and k weights p, in one order: a pair only where it is less -/
def mgG (w p : Nat → Int) (m k : Nat) : Nat → Nat → Nat → List (Bool × Int)
  | 0, _, _ => []
  | g + 1, a, b => if a < m ∧ (b = k ∨ w a ≤ p b) then (false, w a) :: mgG w p m k g (a + 1) b else (true, p b) :: mgG w p m k g a (b + 1)
def wgt (L : List (Bool × Int)) (i : Nat) : Int := match L[i]? with
  | none => 0
  | some q => q.2
def prW (L : List (Bool × Int)) (b : Nat) : Int := wgt L (2 * b) + wgt L (2 * b + 1)
/-- the lists, one behind the other -/
def pmL (w : Nat → Int) (m : Nat) : Nat → List (Bool × Int)
  | 0 => mgG w (prW []) m 0 m 0 0
  | l + 1 => mgG w (prW (pmL w m l)) m ((pmL w m l).length / 2) (m + (pmL w m l).length / 2) 0 0
def nF : List (Bool × Int) → Nat
  | [] => 0
  | q :: r => (if q.1 then 0 else 1) + nF r
def nSg (L : List (Bool × Int)) (t : Nat) : Nat := nF (L.take t)
/-- how often the symbol of rank a is taken when t of the list l - 1 are -/
def plG (w : Nat → Int) (m : Nat) : Nat → Nat → Nat → Int
  | 0, _, _ => 0
  | l + 1, t, a => (if a < nSg (pmL w m l) t then 1 else 0) + plG w m l (2 * (t - nSg (pmL w m l) t)) a
theorem mgG_len {w p : Nat → Int} {m k : Nat} : ∀ (g a b : Nat), (mgG w p m k g a b).length = g
  | 0, _, _ => rfl
  | g + 1, a, b => by
    show (if a < m ∧ (b = k ∨ w a ≤ p b) then (false, w a) :: mgG w p m k g (a + 1) b else (true, p b) :: mgG w p m k g a (b + 1)).length = g + 1
    split
    · rw [List.length_cons, mgG_len g]
    · rw [List.length_cons, mgG_len g]
theorem pmL_len {w : Nat → Int} {m : Nat} : ∀ l : Nat, m ≤ (pmL w m l).length ∧ (pmL w m l).length ≤ 2 * m
  | 0 => by
    have e : (pmL w m 0).length = m := mgG_len _ _ _
    omega
  | l + 1 => by
    have ih := pmL_len (w := w) (m := m) l
    have e : (pmL w m (l + 1)).length = m + (pmL w m l).length / 2 := mgG_len _ _ _
    omega
/-- the list before -/
def pvL (w : Nat → Int) (m : Nat) : Nat → List (Bool × Int)
  | 0 => []
  | l + 1 => pmL w m l
theorem pmL_pv (w : Nat → Int) (m : Nat) : ∀ l : Nat, pmL w m l = mgG w (prW (pvL w m l)) m ((pvL w m l).length / 2) (m + (pvL w m l).length / 2) 0 0
  | 0 => by
    show pmL w m 0 = mgG w (prW []) m (0 / 2) (m + 0 / 2) 0 0
    rw [Nat.zero_div]
    rfl
  | _ + 1 => rfl
theorem pvL_len {w : Nat → Int} {m : Nat} (l : Nat) : (pvL w m l).length ≤ 2 * m := by
  cases l with
  | zero => exact Nat.zero_le _
  | succ l => exact (pmL_len l).2
theorem nF_add (L : List (Bool × Int)) (q : Bool × Int) : nF (L ++ [q]) = nF L + (if q.1 then 0 else 1) := by
  induction L with
  | nil =>
    show (if q.1 then 0 else 1) + 0 = 0 + _
    omega
  | cons u r ih =>
    show (if u.1 then 0 else 1) + nF (r ++ [q]) = (if u.1 then 0 else 1) + nF r + _
    rw [ih]
    omega
theorem nF_le : ∀ L : List (Bool × Int), nF L ≤ L.length
  | [] => Nat.le_refl _
  | q :: r => by
    have ih := nF_le r
    show (if q.1 then 0 else 1) + nF r ≤ r.length + 1
    split <;> omega
theorem nSg_step {L : List (Bool × Int)} {t : Nat} {q : Bool × Int} (h : L[t]? = some q) : nSg L (t + 1) = nSg L t + (if q.1 then 0 else 1) := by
  unfold nSg
  rw [List.take_add_one, h]
  exact nF_add _ _
theorem nSg_le (L : List (Bool × Int)) (t : Nat) : nSg L t ≤ t := by
  have := nF_le (L.take t)
  have h2 : (L.take t).length ≤ t := by rw [List.length_take]; omega
  unfold nSg
  omega
theorem nSg_pre {pre r : List (Bool × Int)} : nSg (pre ++ r) pre.length = nF pre := by
  unfold nSg
  rw [List.take_left']
  rfl
/-- the weights stay small -/
theorem mgG_b {w p : Nat → Int} {m k : Nat} {W : Int} (hw : ∀ i : Nat, i < m → 0 ≤ w i ∧ w i ≤ W) (hp : ∀ i : Nat, i < k → 0 ≤ p i ∧ p i ≤ W) : ∀ (g a b : Nat), g + a + b = m + k → a ≤ m → b ≤ k → ∀ q ∈ mgG w p m k g a b, 0 ≤ q.2 ∧ q.2 ≤ W
  | 0, _, _, _, _, _, q, h => by cases h
  | g + 1, a, b, h1, h2, h3, q, h => by
    have h' : q ∈ (if a < m ∧ (b = k ∨ w a ≤ p b) then (false, w a) :: mgG w p m k g (a + 1) b else (true, p b) :: mgG w p m k g a (b + 1)) := h
    split at h'
    · rename_i c
      rcases List.mem_cons.1 h' with e | e
      · rw [e]
        exact hw a c.1
      · exact mgG_b hw hp g (a + 1) b (by omega) (by omega) h3 q e
    · rename_i c
      have hb : b < k := by
        by_cases e : b < k
        · exact e
        · exact absurd ⟨by omega, Or.inl (by omega)⟩ c
      rcases List.mem_cons.1 h' with e | e
      · rw [e]
        exact hp b hb
      · exact mgG_b hw hp g a (b + 1) (by omega) h2 (by omega) q e
theorem wgt_b {L : List (Bool × Int)} {W : Int} (h : ∀ q ∈ L, 0 ≤ q.2 ∧ q.2 ≤ W) {i : Nat} (hi : i < L.length) : 0 ≤ wgt L i ∧ wgt L i ≤ W := by
  unfold wgt
  rw [List.getElem?_eq_getElem hi]
  exact h _ (List.getElem_mem hi)
theorem pmL_b {w : Nat → Int} {m : Nat} {W : Int} (hW : 0 ≤ W) (hw : ∀ i : Nat, i < m → 0 ≤ w i ∧ w i ≤ W) : ∀ l : Nat, ∀ q ∈ pmL w m l, 0 ≤ q.2 ∧ q.2 ≤ W * 2 ^ l
  | 0 => by
    have := mgG_b (p := prW []) (k := 0) hw (fun i hi => by omega) m 0 0 (by omega) (by omega) (by omega)
    rw [Int.pow_zero, Int.mul_one]
    exact this
  | l + 1 => by
    have ih := pmL_b hW hw l
    have e2 : W * 2 ^ (l + 1) = W * 2 ^ l + W * 2 ^ l := by
      rw [Int.pow_succ, ← Int.mul_assoc]
      omega
    have hp : (0 : Int) < 2 ^ l := Int.pow_pos (by omega)
    have hp1 : W ≤ W * 2 ^ l := by
      have := Int.mul_le_mul_of_nonneg_left (show (1 : Int) ≤ 2 ^ l by omega) hW
      omega
    rw [e2]
    refine mgG_b (fun i hi => ?_) (fun i hi => ?_) _ 0 0 (by omega) (by omega) (by omega)
    · have := hw i hi
      omega
    · have a1 := wgt_b ih (i := 2 * i) (by omega)
      have a2 := wgt_b ih (i := 2 * i + 1) (by omega)
      unfold prW
      omega
