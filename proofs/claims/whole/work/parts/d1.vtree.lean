/-! UNPACKING, the reference: its trees, what holds of them while they grow -/
def mlt (x y : Int) : Prop := ∃ c : Int, x = c * y
theorem mlt_eq {a b X : Int} (hX : 0 < X) (ha : mlt a X) (hb : mlt b X) (h1 : a < b + X) (h2 : b < a + X) : a = b := by
  obtain ⟨c, hc⟩ := ha
  obtain ⟨e, he⟩ := hb
  have q1 : (c - e) * X < 1 * X := by
    rw [Int.sub_mul]
    omega
  have q2 : (e - c) * X < 1 * X := by
    rw [Int.sub_mul]
    omega
  have q3 := Int.lt_of_mul_lt_mul_right q1 (by omega)
  have q4 := Int.lt_of_mul_lt_mul_right q2 (by omega)
  rw [hc, he, show c = e by omega]
theorem mlt_down {a : Int} {i j : Nat} (h : mlt a (2 ^ j)) (hij : i ≤ j) : mlt a (2 ^ i) := by
  obtain ⟨c, hc⟩ := h
  refine ⟨c * 2 ^ (j - i), ?_⟩
  rw [hc, Int.mul_assoc, ← Int.pow_add, Nat.sub_add_cancel hij]
theorem mlt_add {a b X : Int} (ha : mlt a X) (hb : mlt b X) : mlt (a + b) X := by
  obtain ⟨c, hc⟩ := ha
  obtain ⟨e, he⟩ := hb
  exact ⟨c + e, by rw [hc, he, Int.add_mul]⟩
theorem mlt_mul (b X : Int) : mlt (b * X) X := ⟨b, rfl⟩
theorem mlt_0 (X : Int) : mlt 0 X := ⟨0, by rw [Int.zero_mul]⟩
theorem fl_b (U : Int) {X : Int} (hX : 0 < X) : U / X * X ≤ U ∧ U < U / X * X + X := by
  have h1 := Int.mul_ediv_add_emod U X
  have h2 := Int.emod_nonneg U (show X ≠ 0 by omega)
  have h3 := Int.emod_lt_of_pos U hX
  rw [Int.mul_comm] at h1
  omega
theorem fl_u {a U X : Int} (hX : 0 < X) (ha : mlt a X) (h1 : a ≤ U) (h2 : U < a + X) : a = U / X * X := by
  have h := fl_b U hX
  exact mlt_eq hX ha (mlt_mul _ _) (by omega) (by omega)
theorem p2s (k : Nat) : (2 : Int) ^ (k + 1) = 2 * 2 ^ k := by
  rw [Int.pow_succ, Int.mul_comm]
/-- a half's begin -/
theorem fl_half (U : Int) {X : Int} (hX : 0 < X) : U / (2 * X) * (2 * X) + U / X % 2 * X = U / X * X := by
  have h : U / (2 * X) = U / X / 2 := by
    rw [Int.mul_comm, Int.ediv_ediv_of_nonneg (by omega)]
  rw [h]
  have h2 : U / X / 2 * (2 * X) = U / X / 2 * 2 * X := by rw [Int.mul_assoc]
  rw [h2, ← Int.add_mul]
  congr 1
  omega
/-- where a symbol's code lies, in steps of the fifteenth bit -/
def posS (ls : Int → Int) (n : Nat) (s : Nat) : Int := sumL ls n (ls s - 1).toNat + cnt ls s (ls s) * 2 ^ (15 - (ls s).toNat)
def slt (A : Int → Int) (D : Int → Nat) (m b : Int) : Int := A m + b * 2 ^ (14 - D m)
def tnN (A : Int → Int) (D : Int → Nat) (N U : Int) : Prop := (1 ≤ N ∧ A 0 = 0 ∧ D 0 = 0) ∧ ∀ m : Int, 0 ≤ m → m < N → D m ≤ 14 ∧ 0 ≤ A m ∧ A m ≤ U ∧ mlt (A m) (2 ^ (15 - D m))
def tnI (A : Int → Int) (D : Int → Nat) (N : Int) : Prop := ∀ m m2 : Int, 0 ≤ m → m < N → 0 ≤ m2 → m2 < N → A m = A m2 → D m = D m2 → m = m2
def tnS (T A : Int → Int) (D : Int → Nat) (N U : Int) (ls : Int → Int) (n : Nat) : Prop := ∀ m b : Int, 0 ≤ m → m < N → 0 ≤ b → b ≤ 1 → (0 < T (2 * m + b) → T (2 * m + b) < N ∧ A (T (2 * m + b)) = slt A D m b ∧ D (T (2 * m + b)) = D m + 1) ∧ (T (2 * m + b) = 0 → U ≤ slt A D m b) ∧ (T (2 * m + b) < 0 → slt A D m b + 2 ^ (14 - D m) ≤ U ∧ ∃ s : Nat, s < n ∧ T (2 * m + b) = -1 - s ∧ ls s = (D m + 1 : Nat) ∧ posS ls n s = slt A D m b)
def tnP (T : Int → Int) (N : Int) : Prop := ∀ m : Int, 0 < m → m < N → ∃ m2 b2 : Int, (0 ≤ m2 ∧ m2 < N ∧ 0 ≤ b2 ∧ b2 ≤ 1) ∧ T (2 * m2 + b2) = m
def tnC (T A : Int → Int) (D : Int → Nat) (N : Int) (ls : Int → Int) (n : Nat) (I : Nat → Prop) : Prop := ∀ s : Nat, s < n → I s → ∃ m b : Int, (0 ≤ m ∧ m < N ∧ 0 ≤ b ∧ b ≤ 1) ∧ T (2 * m + b) = -1 - s ∧ ls s = (D m + 1 : Nat) ∧ slt A D m b = posS ls n s
def zf (T : Int → Int) (i : Int) : Int := if T i = 0 then 1 else 0
def tnZ (T : Int → Int) (N Lc : Int) : Prop := cnt (zf T) (2 * N).toNat 0 = N - 1 + Lc
def tnV (T A : Int → Int) (D : Int → Nat) (N U : Int) (ls : Int → Int) (n : Nat) (I : Nat → Prop) (Lc : Int) : Prop := tnN A D N U ∧ tnI A D N ∧ tnS T A D N U ls n ∧ tnP T N ∧ tnC T A D N ls n I ∧ tnZ T N Lc
theorem cnt_le1 {f : Int → Int} {v : Int} : ∀ n : Nat, (∀ i j : Nat, i < n → j < n → f i = v → f j = v → i = j) → cnt f n v ≤ 1
  | 0, _ => by
    show (0 : Int) ≤ 1
    omega
  | n + 1, h => by
    have ih := cnt_le1 n (fun i j hi hj => h i j (by omega) (by omega))
    show cnt f n v + (if f n = v then 1 else 0) ≤ 1
    by_cases e : f n = v
    · rw [if_pos e]
      have z : ¬ 0 < cnt f n v := by
        intro hp
        obtain ⟨k, k1, k2⟩ := cnt_ex f v n hp
        have := h k n (by omega) (by omega) k2 e
        omega
      omega
    · rw [if_neg e]
      omega
theorem cnt_all {f : Int → Int} (L : Nat) : ∀ n : Nat, (∀ i : Nat, i < n → 0 ≤ f i ∧ f i ≤ L) → (n : Int) = cnt f n 0 + offL f n L
  | 0, _ => by
    have h : ∀ m : Nat, offL f 0 m = 0 := by
      intro m
      induction m with
      | zero => rfl
      | succ m ih =>
        show offL f 0 m + 0 = 0
        omega
    rw [h]
    rfl
  | n + 1, hr => by
    have ih := cnt_all L n (fun i hi => hr i (by omega))
    have h : ∀ m : Nat, offL f (n + 1) m = offL f n m + (if 1 ≤ f n ∧ f n ≤ m then 1 else 0) := by
      intro m
      induction m with
      | zero =>
        rw [if_neg (by omega)]
        rfl
      | succ m ih =>
        show offL f (n + 1) m + (cnt f n (m + 1 : Nat) + (if f n = (m + 1 : Nat) then 1 else 0)) = offL f n m + cnt f n (m + 1 : Nat) + _
        rw [ih]
        by_cases e : f n = (m + 1 : Nat)
        · rw [if_neg (by omega), if_pos e, if_pos (by omega)]
          omega
        · rw [if_neg e]
          by_cases e2 : 1 ≤ f n ∧ f n ≤ m
          · rw [if_pos e2, if_pos (by omega)]
            omega
          · rw [if_neg e2, if_neg (by omega)]
            omega
    rw [h]
    have hn := hr n (by omega)
    show ((n + 1 : Nat) : Int) = cnt f n 0 + (if f n = 0 then 1 else 0) + _
    by_cases e : f n = 0
    · rw [if_pos e, if_neg (by omega)]
      omega
    · rw [if_neg e, if_pos (by omega)]
      omega
theorem offL_le1 {f : Int → Int} {n : Nat} : ∀ L : Nat, (∀ v : Nat, 1 ≤ v → v ≤ L → cnt f n v ≤ 1) → offL f n L ≤ L
  | 0, _ => by
    show (0 : Int) ≤ ((0 : Nat) : Int)
    omega
  | L + 1, h => by
    have ih := offL_le1 L (fun v h1 h2 => h v h1 (by omega))
    have h2 := h (L + 1) (by omega) (by omega)
    show offL f n L + cnt f n (L + 1 : Nat) ≤ ((L + 1 : Nat) : Int)
    omega
theorem cnt_iff {f g : Int → Int} {v w : Int} : ∀ n : Nat, (∀ i : Nat, i < n → (f i = v ↔ g i = w)) → cnt f n v = cnt g n w
  | 0, _ => rfl
  | n + 1, h => by
    show cnt f n v + (if f n = v then 1 else 0) = cnt g n w + (if g n = w then 1 else 0)
    rw [cnt_iff n (fun i hi => h i (by omega))]
    have q := h n (by omega)
    by_cases e : f n = v
    · rw [if_pos e, if_pos (q.1 e)]
    · rw [if_neg e, if_neg (fun z => e (q.2 z))]
section VTREE
variable {T A : Int → Int} {D : Int → Nat} {N U Lc : Int} {ls : Int → Int} {n : Nat} {I : Nat → Prop}
/-- an empty slot's node is the one of its depth that holds U -/
theorem tz_fl (h : tnV T A D N U ls n I Lc) {m b : Int} (m0 : 0 ≤ m) (m1 : m < N) (b0 : 0 ≤ b) (b1 : b ≤ 1) (hz : T (2 * m + b) = 0) : A m = U / 2 ^ (15 - D m) * 2 ^ (15 - D m) := by
  obtain ⟨hN, -, hS, -⟩ := h
  obtain ⟨a1, a2, a3, a4⟩ := hN.2 m m0 m1
  have z := (hS m b m0 m1 b0 b1).2.1 hz
  unfold slt at z
  have e : 15 - D m = (14 - D m) + 1 := by omega
  have hp := two_pos (14 - D m)
  have e2 := p2s (14 - D m)
  rw [← e] at e2
  refine fl_u (by omega) a4 a3 ?_
  have hb : b = 0 ∨ b = 1 := by omega
  rcases hb with hb | hb
  · rw [hb] at z
    omega
  · rw [hb] at z
    omega
theorem tn_bound (h : tnV T A D N U ls n I Lc) : N ≤ Lc + 29 := by
  have h0 := h
  obtain ⟨hN, hI, hS, -, -, hZ⟩ := h
  have N1 := hN.1.1
  obtain ⟨f, hf⟩ : ∃ f : Int → Int, f = fun i => if T i = 0 then 2 * (D (i / 2) : Int) + i % 2 + 1 else 0 := ⟨_, rfl⟩
  have fv : ∀ i, T i = 0 → f i = 2 * (D (i / 2) : Int) + i % 2 + 1 := fun i e => by rw [hf]; exact if_pos e
  have f0 : ∀ i, T i ≠ 0 → f i = 0 := fun i e => by rw [hf]; exact if_neg e
  have e1 := cnt_all (f := f) 30 (2 * N).toNat (fun i hi => by
    by_cases e : T i = 0
    · rw [fv _ e]
      have := (hN.2 ((i : Int) / 2) (by omega) (by omega)).1
      omega
    · rw [f0 _ e]
      omega)
  have e2 : offL f (2 * N).toNat 30 ≤ ((30 : Nat) : Int) := offL_le1 30 (fun v v1 v2 => cnt_le1 _ (fun i j hi hj ei ej => by
    have zi : T i = 0 := by
      by_cases e : T i = 0
      · exact e
      · rw [f0 _ e] at ei
        omega
    have zj : T j = 0 := by
      by_cases e : T j = 0
      · exact e
      · rw [f0 _ e] at ej
        omega
    rw [fv _ zi] at ei
    rw [fv _ zj] at ej
    have eD : D ((i : Int) / 2) = D ((j : Int) / 2) := by omega
    have ai := tz_fl h0 (m := (i : Int) / 2) (b := (i : Int) % 2) (by omega) (by omega) (by omega) (by omega) (by rw [show 2 * ((i : Int) / 2) + (i : Int) % 2 = i by omega]; exact zi)
    have aj := tz_fl h0 (m := (j : Int) / 2) (b := (j : Int) % 2) (by omega) (by omega) (by omega) (by omega) (by rw [show 2 * ((j : Int) / 2) + (j : Int) % 2 = j by omega]; exact zj)
    rw [← eD, ← ai] at aj
    have em := hI ((i : Int) / 2) ((j : Int) / 2) (by omega) (by omega) (by omega) (by omega) aj.symm eD
    omega))
  have e3 : cnt f (2 * N).toNat 0 = cnt (zf T) (2 * N).toNat 0 := cnt_iff _ (fun i hi => by
    unfold zf
    by_cases e : T i = 0
    · rw [fv _ e, if_pos e]
      omega
    · rw [f0 _ e, if_neg e])
  unfold tnZ at hZ
  omega
end VTREE
