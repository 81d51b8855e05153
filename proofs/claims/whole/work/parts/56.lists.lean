/-! ROWS OF BYTES as lists: stretches, their order -/
/-- n bytes from a on, without signs -/
def sl (f : Int → Int) (a : Int) : Nat → List Int
  | 0 => []
  | n + 1 => (f a % 256) :: sl f (a + 1) n
theorem sl_len (f : Int → Int) : ∀ (n : Nat) (a : Int), (sl f a n).length = n
  | 0, _ => rfl
  | n + 1, a => congrArg Nat.succ (sl_len f n (a + 1))
theorem sl_add (f : Int → Int) : ∀ (n m : Nat) (a : Int), sl f a (n + m) = sl f a n ++ sl f (a + n) m
  | 0, m, a => by
    rw [Nat.zero_add]
    show sl f a m = [] ++ sl f (a + (0 : Nat)) m
    rw [List.nil_append]
    congr 1
    omega
  | n + 1, m, a => by
    rw [show n + 1 + m = (n + m) + 1 by omega]
    show (f a % 256) :: sl f (a + 1) (n + m) = (f a % 256) :: (sl f (a + 1) n ++ sl f (a + (n + 1 : Nat)) m)
    rw [sl_add f n m (a + 1)]
    congr 3
    omega
theorem sl_back (f : Int → Int) (n : Nat) (a : Int) : sl f a (n + 1) = sl f a n ++ [f (a + n) % 256] := sl_add f n 1 a
theorem sl_congr {f g : Int → Int} : ∀ (n : Nat) (a b : Int), (∀ i : Nat, i < n → f (a + i) % 256 = g (b + i) % 256) → sl f a n = sl g b n
  | 0, _, _, _ => rfl
  | n + 1, a, b, h => by
    have h0 := h 0 (by omega)
    simp only [Int.natCast_zero, Int.add_zero] at h0
    show (f a % 256) :: sl f (a + 1) n = (g b % 256) :: sl g (b + 1) n
    rw [h0, sl_congr n (a + 1) (b + 1) (fun i hi => by
      have h1 := h (i + 1) (by omega)
      rw [show a + 1 + (i : Int) = a + ((i + 1 : Nat) : Int) by omega, show b + 1 + (i : Int) = b + ((i + 1 : Nat) : Int) by omega]
      exact h1)]
theorem sl_inj {f g : Int → Int} : ∀ (n : Nat) (a b : Int), sl f a n = sl g b n → ∀ i : Nat, i < n → f (a + i) % 256 = g (b + i) % 256
  | 0, _, _, _, i, hi => by omega
  | n + 1, a, b, h, i, hi => by
    have h2 : (f a % 256) :: sl f (a + 1) n = (g b % 256) :: sl g (b + 1) n := h
    injection h2 with e1 e2
    match i, hi with
    | 0, _ =>
      simp only [Int.natCast_zero, Int.add_zero]
      exact e1
    | i + 1, hi =>
      have e3 := sl_inj n (a + 1) (b + 1) e2 i (by omega)
      rw [show a + 1 + (i : Int) = a + ((i + 1 : Nat) : Int) by omega, show b + 1 + (i : Int) = b + ((i + 1 : Nat) : Int) by omega] at e3
      exact e3
theorem sl_get {f : Int → Int} : ∀ (n : Nat) (a : Int) (i : Nat), i < n → (sl f a n)[i]? = some (f (a + i) % 256)
  | 0, _, i, hi => by omega
  | n + 1, a, 0, hi => by
    show some (f a % 256) = _
    simp only [Int.natCast_zero, Int.add_zero]
  | n + 1, a, i + 1, hi => by
    show (sl f (a + 1) n)[i]? = _
    rw [sl_get n (a + 1) i (by omega)]
    congr 3
    omega
theorem sl_rng {f : Int → Int} : ∀ (n : Nat) (a x : Int), x ∈ sl f a n → 0 ≤ x ∧ x < 256
  | 0, _, x, h => by cases h
  | n + 1, a, x, h => by
    rcases List.mem_cons.mp h with e | e
    · omega
    · exact sl_rng n (a + 1) x e
theorem sl_ur {f : Int → Int} {n : Nat} {a i x : Int} (h : i < a ∨ a + n ≤ i) : sl (ur f i x) a n = sl f a n := sl_congr n a a (fun j hj => by rw [ur_ne (by omega)])
/-- the order of names, as both programs tell it -/
def ordL : List Int → List Int → Int
  | x :: r, y :: s => if x = y then ordL r s else x - y
  | [], s => - (s.length : Int)
  | r, [] => (r.length : Int)
theorem ordL_nil (r : List Int) : ordL r [] = (r.length : Int) := by cases r <;> rfl
theorem ordL_anti : ∀ a b : List Int, ordL b a = - ordL a b
  | [], s => by
    rw [ordL_nil]
    show _ = - - (s.length : Int)
    omega
  | x :: r, [] => by
    rw [ordL_nil]
    rfl
  | x :: r, y :: s => by
    show (if y = x then ordL s r else y - x) = - (if x = y then ordL r s else x - y)
    by_cases e : x = y
    · rw [if_pos e, if_pos e.symm, ordL_anti r s]
    · rw [if_neg e, if_neg (fun q => e q.symm)]
      omega
theorem ordL_eq : ∀ a b : List Int, ordL a b = 0 ↔ a = b
  | [], s => by
    show - (s.length : Int) = 0 ↔ _
    cases s with
    | nil => simp
    | cons y s =>
      simp only [List.length_cons]
      constructor
      · intro h; omega
      · intro h; cases h
  | x :: r, [] => by
    rw [ordL_nil]
    simp only [List.length_cons]
    constructor
    · intro h; omega
    · intro h; cases h
  | x :: r, y :: s => by
    show (if x = y then ordL r s else x - y) = 0 ↔ _
    by_cases e : x = y
    · rw [if_pos e, ordL_eq r s]
      constructor
      · intro h; rw [e, h]
      · intro h; injection h
    · rw [if_neg e]
      constructor
      · intro h; omega
      · intro h; injection h with h1 h2; exact absurd h1 e
theorem ordL_tr : ∀ a b c : List Int, ordL a b < 0 → ordL b c < 0 → ordL a c < 0
  | [], b, [], h1, h2 => by
    have h3 : - (b.length : Int) < 0 := h1
    rw [ordL_nil] at h2
    omega
  | [], b, z :: t, h1, h2 => by
    show - ((t.length + 1 : Nat) : Int) < 0
    omega
  | x :: r, [], c, h1, h2 => by
    rw [ordL_nil] at h1
    simp only [List.length_cons] at h1
    omega
  | x :: r, y :: s, [], h1, h2 => by
    rw [ordL_nil] at h2
    simp only [List.length_cons] at h2
    omega
  | x :: r, y :: s, z :: t, h1, h2 => by
    have h3 : (if x = y then ordL r s else x - y) < 0 := h1
    have h4 : (if y = z then ordL s t else y - z) < 0 := h2
    show (if x = z then ordL r t else x - z) < 0
    by_cases e1 : x = y
    · rw [if_pos e1] at h3
      by_cases e2 : y = z
      · rw [if_pos e2] at h4
        rw [if_pos (e1.trans e2)]
        exact ordL_tr r s t h3 h4
      · rw [if_neg e2] at h4
        rw [if_neg (by omega)]
        omega
    · rw [if_neg e1] at h3
      by_cases e2 : y = z
      · rw [if_neg (by omega)]
        omega
      · rw [if_neg e2] at h4
        rw [if_neg (by omega)]
        omega
theorem ordL_lt_le {a b c : List Int} (h1 : ordL a b < 0) (h2 : ordL b c ≤ 0) : ordL a c < 0 := by
  rcases Int.lt_or_eq_of_le h2 with h | h
  · exact ordL_tr a b c h1 h
  · rw [← (ordL_eq b c).1 h]
    exact h1
theorem ordL_le_lt {a b c : List Int} (h1 : ordL a b ≤ 0) (h2 : ordL b c < 0) : ordL a c < 0 := by
  rcases Int.lt_or_eq_of_le h1 with h | h
  · exact ordL_tr a b c h h2
  · rw [(ordL_eq a b).1 h]
    exact h2
/-- the loop of both programs -/
def ordS (f g : Int → Int) (a b : Int) (n m : Int) : Nat → Int → Int
  | 0, _ => n - m
  | F + 1, k => if k < n ∧ k < m then (if f (a + k) % 256 - g (b + k) % 256 = 0 then ordS f g a b n m F (k + 1) else f (a + k) % 256 - g (b + k) % 256) else n - m
theorem ordS_ok {f g : Int → Int} {a b : Int} : ∀ (F : Nat) (n m k : Nat), n ≤ F + k → k ≤ n → k ≤ m → ordS f g a b n m F k = ordL (sl f (a + k) (n - k)) (sl g (b + k) (m - k))
  | 0, n, m, k, h, h1, h2 => by
    have e : n - k = 0 := by omega
    rw [e]
    show (n : Int) - m = - ((sl g (b + k) (m - k)).length : Int)
    rw [sl_len]
    omega
  | F + 1, n, m, k, h, h1, h2 => by
    show (if (k : Int) < n ∧ (k : Int) < m then _ else _) = _
    by_cases hc : k < n ∧ k < m
    · rw [if_pos (by omega)]
      obtain ⟨n2, hn⟩ : ∃ n2, n - k = n2 + 1 := ⟨n - k - 1, by omega⟩
      obtain ⟨m2, hm⟩ : ∃ m2, m - k = m2 + 1 := ⟨m - k - 1, by omega⟩
      rw [hn, hm]
      show _ = (if f (a + k) % 256 = g (b + k) % 256 then ordL (sl f (a + k + 1) n2) (sl g (b + k + 1) m2) else f (a + k) % 256 - g (b + k) % 256)
      by_cases e : f (a + k) % 256 = g (b + k) % 256
      · rw [if_pos (by omega), if_pos e]
        have ih := ordS_ok (f := f) (g := g) (a := a) (b := b) F n m (k + 1) (by omega) (by omega) (by omega)
        rw [show ((k + 1 : Nat) : Int) = (k : Int) + 1 by omega] at ih
        rw [ih, show n - (k + 1) = n2 by omega, show m - (k + 1) = m2 by omega, show a + ((k : Int) + 1) = a + k + 1 by omega, show b + ((k : Int) + 1) = b + k + 1 by omega]
      · rw [if_neg (by omega), if_neg e]
    · rw [if_neg (by omega)]
      by_cases hk : k < n
      · have e : m - k = 0 := by omega
        rw [e]
        show _ = ordL (sl f (a + k) (n - k)) []
        rw [ordL_nil, sl_len]
        omega
      · have e : n - k = 0 := by omega
        rw [e]
        show _ = - ((sl g (b + k) (m - k)).length : Int)
        rw [sl_len]
        omega
