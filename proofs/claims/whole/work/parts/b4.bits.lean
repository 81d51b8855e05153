/-! UNPACKING: bits, codes: what both compute -/
def bt (f : Int → Int) (p : Int) : Int := f (p / 8) / 2 ^ (p % 8).toNat % 2
theorem bt_rng (f : Int → Int) (p : Int) : 0 ≤ bt f p ∧ bt f p < 2 := by
  unfold bt
  generalize f (p / 8) / 2 ^ (p % 8).toNat = z
  omega
theorem byte_bit (x : Int) : ∀ k : Nat, k ≤ 7 → ((x + 128) % 256 - 128) / 2 ^ k % 2 = x / 2 ^ k % 2
  | 0, _ => by
    rw [show (2 : Int) ^ 0 = 1 from rfl]
    omega
  | 1, _ => by
    rw [show (2 : Int) ^ 1 = 2 from rfl]
    omega
  | 2, _ => by
    rw [show (2 : Int) ^ 2 = 4 from rfl]
    omega
  | 3, _ => by
    rw [show (2 : Int) ^ 3 = 8 from rfl]
    omega
  | 4, _ => by
    rw [show (2 : Int) ^ 4 = 16 from rfl]
    omega
  | 5, _ => by
    rw [show (2 : Int) ^ 5 = 32 from rfl]
    omega
  | 6, _ => by
    rw [show (2 : Int) ^ 6 = 64 from rfl]
    omega
  | 7, _ => by
    rw [show (2 : Int) ^ 7 = 128 from rfl]
    omega
  | n + 8, h => by omega
theorem bt_byte (f : Int → Int) (p : Int) : ((f (p / 8) + 128) % 256 - 128) / 2 ^ (p % 8).toNat % 2 = bt f p := byte_bit _ _ (by omega)
theorem byte_mod (x y : Int) (h : x % 256 = y % 256) : ∀ k : Nat, k ≤ 7 → x / 2 ^ k % 2 = y / 2 ^ k % 2 := by
  intro k hk
  rw [← byte_bit x k hk, ← byte_bit y k hk]
  have e : (x + 128) % 256 = (y + 128) % 256 := by omega
  rw [e]
/-- n bits from p on, the lowest first -/
def bv (f : Int → Int) (p : Int) : Nat → Int
  | 0 => 0
  | n + 1 => bv f p n + bt f (p + n) * 2 ^ n
theorem two_pos (n : Nat) : (0 : Int) < 2 ^ n := by
  induction n with
  | zero => decide
  | succ n ih =>
    rw [Int.pow_succ]
    omega
theorem bv_rng (f : Int → Int) (p : Int) : ∀ n : Nat, 0 ≤ bv f p n ∧ bv f p n < 2 ^ n
  | 0 => by
    show (0 : Int) ≤ 0 ∧ (0 : Int) < 2 ^ 0
    decide
  | n + 1 => by
    have h := bv_rng f p n
    have h2 := two_pos n
    have h3 := bt_rng f (p + n)
    show 0 ≤ bv f p n + bt f (p + n) * 2 ^ n ∧ bv f p n + bt f (p + n) * 2 ^ n < 2 ^ (n + 1)
    rw [Int.pow_succ]
    have h4 : bt f (p + n) = 0 ∨ bt f (p + n) = 1 := by omega
    rcases h4 with h4 | h4
    · rw [h4]
      omega
    · rw [h4]
      omega
/-- the j-th of those that have the length l -/
def nth (ls : Int → Int) (l j : Int) : Nat → Int
  | 0 => 0
  | n + 1 => if ls n = l ∧ cnt ls n l = j then n else nth ls l j n
/-- a symbol: g lengths more, l bits read -/
def syG (f : Int → Int) (E : Int) (ls : Int → Int) (n : Nat) : Nat → Nat → Int → Int → Int → Option (Int × Int)
  | 0, _, _, _, _ => none
  | g + 1, l, v, fi, p => if p < E then (if 2 * v + bt f p - fi < cnt ls n (l + 1 : Nat) then some (nth ls (l + 1 : Nat) (2 * v + bt f p - fi) n, p + 1) else syG f E ls n g (l + 1) (2 * v + bt f p) (2 * (fi + cnt ls n (l + 1 : Nat))) (p + 1)) else none
def sy (f : Int → Int) (E : Int) (ls : Int → Int) (n : Nat) (p : Int) : Option (Int × Int) := syG f E ls n 15 0 0 0 p
theorem nth_at (ls : Int → Int) (l : Int) : ∀ (n s : Nat), s < n → ls s = l → nth ls l (cnt ls s l) n = s
  | 0, s, h, _ => by omega
  | n + 1, s, h, e => by
    show (if ls n = l ∧ cnt ls n l = cnt ls s l then (n : Int) else nth ls l (cnt ls s l) n) = s
    by_cases q : s = n
    · rw [if_pos ⟨by rw [← q]; exact e, by rw [q]⟩, q]
    · rw [if_neg ?_]
      · exact nth_at ls l n s (by omega) e
      · intro z
        have h1 : cnt ls s l < cnt ls n l := by
          have := cnt_lt ls l n s (by omega) e
          exact this
        omega
where cnt_lt (ls : Int → Int) (l : Int) : ∀ (n s : Nat), s < n → ls s = l → cnt ls s l < cnt ls n l
  | 0, s, h, _ => by omega
  | n + 1, s, h, e => by
    show cnt ls s l < cnt ls n l + (if ls n = l then 1 else 0)
    by_cases q : s = n
    · rw [q] at e ⊢
      rw [if_pos e]
      omega
    · have := cnt_lt ls l n s (by omega) e
      split <;> omega
theorem nth_ex (ls : Int → Int) (l : Int) : ∀ (n : Nat) (j : Int), 0 ≤ j → j < cnt ls n l → ∃ s : Nat, s < n ∧ ls s = l ∧ cnt ls s l = j
  | 0, j, h0, h1 => by
    have h2 : j < (0 : Int) := h1
    omega
  | n + 1, j, h0, h1 => by
    have h2 : j < cnt ls n l + (if ls n = l then 1 else 0) := h1
    by_cases q : j < cnt ls n l
    · obtain ⟨s, a, b, c⟩ := nth_ex ls l n j h0 q
      exact ⟨s, by omega, b, c⟩
    · by_cases e : ls n = l
      · rw [if_pos e] at h2
        exact ⟨n, by omega, e, by omega⟩
      · rw [if_neg e] at h2
        omega
theorem nth_rng (ls : Int → Int) (l j : Int) (n : Nat) (h0 : 0 ≤ j) (h1 : j < cnt ls n l) : 0 ≤ nth ls l j n ∧ nth ls l j n < n := by
  obtain ⟨s, a, b, c⟩ := nth_ex ls l n j h0 h1
  rw [← c, nth_at ls l n s a b]
  omega
/-- how many have one of the lengths 1 to l -/
def offL (ls : Int → Int) (n : Nat) : Nat → Int
  | 0 => 0
  | l + 1 => offL ls n l + cnt ls n (l + 1 : Nat)
theorem offL_mono (ls : Int → Int) (n : Nat) : ∀ l m : Nat, l ≤ m → offL ls n l ≤ offL ls n m
  | l, 0, h => by
    rw [show l = 0 by omega]
    omega
  | l, m + 1, h => by
    by_cases e : l = m + 1
    · rw [e]
      omega
    · have := offL_mono ls n l m (by omega)
      have q := (cnt_nn ls (m + 1 : Nat) n).1
      show _ ≤ offL ls n m + cnt ls n (m + 1 : Nat)
      omega
/-- in all lengths no more than there are -/
theorem offL_le (ls : Int → Int) : ∀ (n l : Nat), offL ls n l ≤ n
  | 0, l => by
    have h : ∀ m : Nat, offL ls 0 m = 0 := by
      intro m
      induction m with
      | zero => rfl
      | succ m ih =>
        show offL ls 0 m + 0 = 0
        omega
    rw [h]
    omega
  | n + 1, l => by
    have h : ∀ m : Nat, offL ls (n + 1) m = offL ls n m + (if 1 ≤ ls n ∧ ls n ≤ m then 1 else 0) := by
      intro m
      induction m with
      | zero =>
        rw [if_neg (by omega)]
        rfl
      | succ m ih =>
        show offL ls (n + 1) m + (cnt ls n (m + 1 : Nat) + (if ls n = (m + 1 : Nat) then 1 else 0)) = offL ls n m + cnt ls n (m + 1 : Nat) + _
        rw [ih]
        by_cases e : ls n = (m + 1 : Nat)
        · rw [if_neg (by omega), if_pos e, if_pos (by omega)]
          omega
        · rw [if_neg e]
          by_cases e2 : 1 ≤ ls n ∧ ls n ≤ m
          · rw [if_pos e2, if_pos (by omega)]
            omega
          · rw [if_neg e2, if_neg (by omega)]
            omega
    rw [h]
    have := offL_le ls n l
    split <;> omega
