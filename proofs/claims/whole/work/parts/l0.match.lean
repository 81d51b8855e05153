/-! PACKING: the best match; one spec for both sides -/
def pkG (f : Int → Int) (x y : Int) : Nat → Int → Int
  | 0, n => n
  | k + 1, n => if f (x + n) % 256 = f (y + n) % 256 then pkG f x y k (n + 1) else n
/-- how many bytes are alike from x and y on -/
def pkN (f : Int → Int) (x y most : Int) : Int := pkG f x y most.toNat 0
theorem pkG_r {f : Int → Int} {x y : Int} : ∀ (k : Nat) (n : Int), n ≤ pkG f x y k n ∧ pkG f x y k n ≤ n + k
  | 0, n => by
    show n ≤ n ∧ n ≤ n + _
    omega
  | k + 1, n => by
    have ih := pkG_r (f := f) (x := x) (y := y) k (n + 1)
    show n ≤ (if f (x + n) % 256 = f (y + n) % 256 then pkG f x y k (n + 1) else n) ∧ (if f (x + n) % 256 = f (y + n) % 256 then pkG f x y k (n + 1) else n) ≤ _
    split <;> omega
theorem pkN_r {f : Int → Int} {x y most : Int} (h : 0 ≤ most) : 0 ≤ pkN f x y most ∧ pkN f x y most ≤ most := by
  have := pkG_r (f := f) (x := x) (y := y) most.toNat 0
  unfold pkN
  omega
theorem pkG_eq {f : Int → Int} {x y : Int} : ∀ (k : Nat) (n i : Int), n ≤ i → i < pkG f x y k n → f (x + i) % 256 = f (y + i) % 256
  | 0, n, i, h0, h1 => by
    have h1' : i < n := h1
    omega
  | k + 1, n, i, h0, h1 => by
    have h1' : i < (if f (x + n) % 256 = f (y + n) % 256 then pkG f x y k (n + 1) else n) := h1
    split at h1'
    · rename_i c
      by_cases e : i = n
      · rw [e]
        exact c
      · exact pkG_eq k (n + 1) i (by omega) h1'
    · omega
theorem pkN_eq {f : Int → Int} {x y most i : Int} (h0 : 0 ≤ i) (h1 : i < pkN f x y most) : f (x + i) % 256 = f (y + i) % 256 := pkG_eq _ 0 i h0 h1
/-- three bytes as one number -/
def pkT (f : Int → Int) (x : Int) : Int := 65536 * (f x % 256) + 256 * (f (x + 1) % 256) + f (x + 2) % 256
theorem pkN_thr {f : Int → Int} {x y most : Int} (h : 3 ≤ pkN f x y most) : pkT f x = pkT f y := by
  have h0 := pkN_eq (f := f) (x := x) (y := y) (most := most) (i := 0) (by omega) (by omega)
  have h1 := pkN_eq (f := f) (x := x) (y := y) (most := most) (i := 1) (by omega) (by omega)
  have h2 := pkN_eq (f := f) (x := x) (y := y) (most := most) (i := 2) (by omega) (by omega)
  rw [Int.add_zero, Int.add_zero] at h0
  unfold pkT
  rw [h0, h1, h2]
/-- the best match of the place p among the places before q; b: best so far, d: how far, s: how many seen -/
def bmG (f : Int → Int) (a most p : Int) : Nat → Int → Int → Int → Int × Int
  | 0, b, d, _ => (b, d)
  | q + 1, b, d, s => if s < 16 ∧ p - q ≤ 32768 then (if 3 ≤ pkN f (a + q) (a + p) most then bmG f a most p q (if b < pkN f (a + q) (a + p) most then pkN f (a + q) (a + p) most else b) (if b < pkN f (a + q) (a + p) most then p - q else d) (s + 1) else bmG f a most p q b d s) else (b, d)
theorem bm_stop {f : Int → Int} {a most p : Int} (q : Nat) (b d s : Int) (h : ¬ (s < 16 ∧ p - (q : Int) < 32768)) : bmG f a most p q b d s = (b, d) := by
  cases q with
  | zero => rfl
  | succ q =>
    show (if s < 16 ∧ p - (q : Int) ≤ 32768 then _ else (b, d)) = (b, d)
    rw [if_neg (by omega)]
theorem bm_full {f : Int → Int} {a most p : Int} (hm : 0 ≤ most) : ∀ (q : Nat) (d s : Int), bmG f a most p q most d s = (most, d)
  | 0, _, _ => rfl
  | q + 1, d, s => by
    have r := pkN_r (f := f) (x := a + q) (y := a + p) hm
    show (if s < 16 ∧ p - (q : Int) ≤ 32768 then (if 3 ≤ pkN f (a + q) (a + p) most then bmG f a most p q (if most < pkN f (a + q) (a + p) most then pkN f (a + q) (a + p) most else most) (if most < pkN f (a + q) (a + p) most then p - q else d) (s + 1) else bmG f a most p q most d s) else (most, d)) = (most, d)
    rw [if_neg (show ¬ most < pkN f (a + q) (a + p) most by omega), if_neg (show ¬ most < pkN f (a + q) (a + p) most by omega), bm_full hm q d (s + 1), bm_full hm q d s]
    split
    · split <;> rfl
    · rfl
theorem bm_skip {f : Int → Int} {a most p : Int} {b d s : Int} (q1 : Nat) : ∀ (q : Nat), q1 ≤ q → (∀ t : Nat, q1 ≤ t → t < q → pkN f (a + t) (a + p) most < 3) → bmG f a most p q b d s = bmG f a most p q1 b d s
  | 0, h, _ => by rw [show q1 = 0 by omega]
  | q + 1, h, hs => by
    by_cases e : q1 = q + 1
    · rw [e]
    · have ih := bm_skip (b := b) (d := d) (s := s) q1 q (by omega) (fun t t0 t1 => hs t t0 (by omega))
      show (if s < 16 ∧ p - (q : Int) ≤ 32768 then (if 3 ≤ pkN f (a + q) (a + p) most then _ else bmG f a most p q b d s) else (b, d)) = _
      by_cases c : s < 16 ∧ p - (q : Int) ≤ 32768
      · rw [if_pos c, if_neg (by have := hs q (by omega) (by omega); omega)]
        exact ih
      · rw [if_neg c, bm_stop q1 b d s (by omega)]
theorem bm_one {f : Int → Int} {a most p b d s : Int} (q : Nat) (h : s < 16 ∧ p - (q : Int) ≤ 32768) : bmG f a most p (q + 1) b d s = if 3 ≤ pkN f (a + q) (a + p) most then bmG f a most p q (if b < pkN f (a + q) (a + p) most then pkN f (a + q) (a + p) most else b) (if b < pkN f (a + q) (a + p) most then p - q else d) (s + 1) else bmG f a most p q b d s := by
  show (if s < 16 ∧ p - (q : Int) ≤ 32768 then _ else (b, d)) = _
  rw [if_pos h]
theorem bm_r {f : Int → Int} {a most p : Int} (hm : 0 ≤ most) : ∀ (q : Nat) (b d s : Int), (b = 0 ∧ d = 0 ∨ (3 ≤ b ∧ b ≤ most) ∧ 1 ≤ d ∧ d ≤ 32768 ∧ d ≤ p) → q ≤ p → ((bmG f a most p q b d s).1 = 0 ∧ (bmG f a most p q b d s).2 = 0 ∨ (3 ≤ (bmG f a most p q b d s).1 ∧ (bmG f a most p q b d s).1 ≤ most) ∧ 1 ≤ (bmG f a most p q b d s).2 ∧ (bmG f a most p q b d s).2 ≤ 32768 ∧ (bmG f a most p q b d s).2 ≤ p)
  | 0, b, d, s, h, _ => h
  | q + 1, b, d, s, h, hq => by
    have r := pkN_r (f := f) (x := a + q) (y := a + p) hm
    by_cases c : s < 16 ∧ p - (q : Int) ≤ 32768
    · rw [bm_one q c]
      by_cases c2 : 3 ≤ pkN f (a + q) (a + p) most
      · rw [if_pos c2]
        refine bm_r hm q _ _ _ ?_ (by omega)
        by_cases c3 : b < pkN f (a + q) (a + p) most
        · rw [if_pos c3, if_pos c3]
          exact Or.inr ⟨⟨by omega, by omega⟩, by omega, by omega, by omega⟩
        · rw [if_neg c3, if_neg c3]
          exact h
      · rw [if_neg c2]
        exact bm_r hm q b d s h (by omega)
    · rw [bm_stop (q + 1) b d s (by omega)]
      exact h
/-- bytes alike as far as a match goes -/
theorem bm_eq {f : Int → Int} {a most p : Int} : ∀ (q : Nat) (b d s : Int), (∀ i : Int, 0 ≤ i → i < b → f (a + p - d + i) % 256 = f (a + p + i) % 256) → ∀ i : Int, 0 ≤ i → i < (bmG f a most p q b d s).1 → f (a + p - (bmG f a most p q b d s).2 + i) % 256 = f (a + p + i) % 256
  | 0, _, _, _, h => h
  | q + 1, b, d, s, h => by
    by_cases c : s < 16 ∧ p - (q : Int) ≤ 32768
    · rw [bm_one q c]
      by_cases c2 : 3 ≤ pkN f (a + q) (a + p) most
      · rw [if_pos c2]
        refine bm_eq q _ _ _ ?_
        by_cases c3 : b < pkN f (a + q) (a + p) most
        · rw [if_pos c3, if_pos c3]
          intro i i0 i1
          have := pkN_eq (f := f) (x := a + q) (y := a + p) i0 i1
          rw [show a + p - (p - (q : Int)) + i = a + q + i by omega]
          exact this
        · rw [if_neg c3, if_neg c3]
          exact h
      · rw [if_neg c2]
        exact bm_eq q b d s h
    · rw [bm_stop (q + 1) b d s (by omega)]
      exact h
/-- a place's match in a part that ends at e -/
def bmS (f : Int → Int) (a e p : Int) : Int × Int := if p + 3 ≤ e then bmG f a (min 258 (e - p)) p p.toNat 0 0 0 else (0, 0)
/-- the last place before k where the hash is v -/
def lsP (hq : Int → Int) (k v q : Int) : Prop := (q = -1 ∧ ∀ t : Int, 0 ≤ t → t < k → hq t ≠ v) ∨ ((0 ≤ q ∧ q < k) ∧ hq q = v ∧ ∀ t : Int, q < t → t < k → hq t ≠ v)
theorem lsP_r {hq : Int → Int} {k v q : Int} (h : lsP hq k v q) : q = -1 ∨ (0 ≤ q ∧ q < k) := by
  rcases h with z | z
  · exact Or.inl z.1
  · exact Or.inr z.1
theorem lsP_gap {hq : Int → Int} {k v q t : Int} (h : lsP hq k v q) (h1 : q < t) (h0 : 0 ≤ t) (h2 : t < k) : hq t ≠ v := by
  rcases h with z | z
  · exact z.2 t h0 h2
  · exact z.2.2 t h1 h2
