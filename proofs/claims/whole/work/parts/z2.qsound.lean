/-! THE QUICK MACHINE IS SOUND, part 1: numbers, rows of bits, cells -/
theorem ei_ok {β : Type} {b : Bool} {k : Option β} {r : β} (h : ei b k = some r) : b = true ∧ k = some r := by
  cases b with
  | false => exact eg_no h
  | true => exact ⟨rfl, h⟩
theorem ev_or_ok {a b : Bool} (h : ev_or a b = true) : a = true ∨ b = true := by
  cases a with
  | false => exact Or.inr h
  | true => exact Or.inl rfl
theorem bq {a b : Nat} (h : Nat.beq a b = true) : a = b := Nat.eq_of_beq_eq_true h
theorem bl {a b : Nat} (h : Nat.blt a b = true) : a < b := by
  have := Nat.le_of_ble_eq_true h
  omega
theorem be {a b : Nat} (h : Nat.ble a b = true) : a ≤ b := Nat.le_of_ble_eq_true h
theorem ev_N_eq {α : Type} (x : Nat) (k : Nat → α) : ev_N x k = k x := by cases x <;> rfl
theorem u32_of (x : Int32) : Int32.ofNat (u32 x) = x := by
  unfold u32
  apply Int32.toBitVec_inj.1
  show BitVec.ofNat 32 (x.toUInt32.toBitVec.toFin.val) = x.toBitVec
  exact BitVec.ofNat_toNat 32 x.toBitVec |>.trans (by simp)
theorem u64_of (x : Int64) : Int64.ofNat (u64 x) = x := by
  unfold u64
  apply Int64.toBitVec_inj.1
  show BitVec.ofNat 64 (x.toUInt64.toBitVec.toFin.val) = x.toBitVec
  exact BitVec.ofNat_toNat 64 x.toBitVec |>.trans (by simp)
theorem ev_f_eq {α : Type} (x : Int32) (k : Int32 → α) : ev_f x k = k x := by
  unfold ev_f
  have e := u32_of x
  generalize u32 x = n at e ⊢
  rw [← e]
  cases n <;> rfl
theorem ev_g_eq {α : Type} (x : Int64) (k : Int64 → α) : ev_g x k = k x := by
  unfold ev_g
  have e := u64_of x
  generalize u64 x = n at e ⊢
  rw [← e]
  cases n <;> rfl
theorem u32_lt (x : Int32) : u32 x < 4294967296 := x.toUInt32.toBitVec.toFin.isLt
theorem u64_lt (x : Int64) : u64 x < 18446744073709551616 := x.toUInt64.toBitVec.toFin.isLt
section EVO
variable {β : Type} {r : β} {st : List Value}
theorem pV_ok {k : Value → List Value → Option β} (h : pV st k = some r) : ∃ v l, st = v :: l ∧ k v l = some r := by
  cases st with
  | nil => exact eg_no h
  | cons v l => exact ⟨v, l, rfl, h⟩
theorem pI_ok {k : Int32 → List Value → Option β} (h : pI st k = some r) : ∃ x l, st = .int x :: l ∧ k x l = some r := by
  cases st with
  | nil => exact eg_no h
  | cons v l => cases v <;> first | exact ⟨_, l, rfl, h⟩ | exact eg_no h
theorem pJ_ok {k : Int64 → List Value → Option β} (h : pJ st k = some r) : ∃ x l, st = .long x :: l ∧ k x l = some r := by
  cases st with
  | nil => exact eg_no h
  | cons v l => cases v <;> first | exact ⟨_, l, rfl, h⟩ | exact eg_no h
theorem pA_ok {k : Nat → List Value → Option β} (h : pA st k = some r) : ∃ x l, st = .ref x :: l ∧ k x l = some r := by
  cases st with
  | nil => exact eg_no h
  | cons v l => cases v <;> first | exact ⟨_, l, rfl, h⟩ | exact eg_no h
theorem sv_dt (σ : sg) {x : UInt64} (h : Nat.ble 1 x.toNat = true) : sv σ (.double x) = .long (σ.2.1 x.toNat) := by
  show (bif Nat.ble 1 x.toNat then Value.long (σ.2.1 x.toNat) else .double x) = _
  rw [h]
  rfl
theorem ev_iI_sv {v : Value} (σ : sg) (h : ev_iI v = true) : eg_isI (sv σ v) = true := by cases v <;> first | rfl | cases h
theorem ev_iJ_sv {v : Value} (σ : sg) (h : ev_iJ v = true) : eg_isJ (sv σ v) = true := by
  cases v with
  | double x => rw [sv_dt σ h]; rfl
  | long x => rfl
  | _ => cases h
theorem ev_iA_sv {v : Value} (σ : sg) (h : ev_iA v = true) : eg_isA (sv σ v) = true := by cases v <;> first | rfl | cases h
theorem sv_cat (σ : sg) (v : Value) : (sv σ v).category = v.category := by
  cases v with
  | double x =>
    show (bif Nat.ble 1 x.toNat then Value.long (σ.2.1 x.toNat) else .double x).category = _
    cases Nat.ble 1 x.toNat <;> rfl
  | _ => rfl
theorem ev_q_ok {q : Option eg_E} {c : Nat → Nat → Nat → Value → Option β} (h : ev_q q c = some r) : ∃ g x y v, q = some (g, x, y, v) ∧ c g x y v = some r := by
  cases q with
  | none => exact eg_no h
  | some p => exact ⟨p.1, p.2.1, p.2.2.1, p.2.2.2, rfl, h⟩
theorem ev_at_ok {h : eh} {a : Nat} {c : (FieldType ⊕ Nat) → Nat → Value → Nat → Option β} (q : ev_at h a c = some r) : ∃ t m d A, (1 ≤ a ∧ a < h.2.1) ∧ g9 h.1 a = (t, m, d, A) ∧ c t m d A = some r := by
  obtain ⟨q1, q2⟩ := ei_ok q
  obtain ⟨q3, q4⟩ := ei_ok q2
  exact ⟨(g9 h.1 a).1, (g9 h.1 a).2.1, (g9 h.1 a).2.2.1, (g9 h.1 a).2.2.2, ⟨be q3, bl q1⟩, rfl, q4⟩
theorem ev_T_l {t : FieldType ⊕ Nat} {c : FieldType → Option β} (h : ev_T t c (fun _ => none) = some r) : ∃ x, t = .inl x ∧ c x = some r := by
  cases t with
  | inl x => exact ⟨x, rfl, h⟩
  | inr k => exact eg_no h
theorem ev_T_r {t : FieldType ⊕ Nat} {c : Nat → Option β} (h : ev_T t (fun _ => none) c = some r) : ∃ x, t = .inr x ∧ c x = some r := by
  cases t with
  | inr x => exact ⟨x, rfl, h⟩
  | inl k => exact eg_no h
theorem ev_sp_eq {α : Type} (l : List α) (k : List α → Option β) : ev_sp l k = k l := by
  induction l generalizing k with
  | nil => rfl
  | cons a l ih => exact ih _
end EVO
/-! rows of bits -/
theorem bf_get_tb (A i b : Nat) : (bf_get A i).testBit b = (decide (b < 72) && A.testBit (72 * (i + 1) + b)) := by
  show ((A >>> (72 * (i + 1))) % 2 ^ 72).testBit b = _
  rw [Nat.testBit_mod_two_pow, Nat.testBit_shiftRight]
theorem bf_get_lt (A i : Nat) : bf_get A i < 4722366482869645213696 := Nat.mod_lt _ (by decide)
theorem bf_get_set (A i v j : Nat) (hv : v < 4722366482869645213696) : bf_get (bf_set A i v) j = if j = i then v else bf_get A j := by
  have hv2 : v < 2 ^ 72 := hv
  have hb : ∀ b, 72 ≤ b → v.testBit b = false := fun b hb => Nat.testBit_lt_two_pow (Nat.lt_of_lt_of_le hv2 (Nat.pow_le_pow_right (by decide) hb))
  apply Nat.eq_of_testBit_eq
  intro b
  rw [bf_get_tb]
  have e : bf_set A i v = (A ^^^ ((bf_get A i ^^^ v) <<< (72 * (i + 1)))) ^^^ (((bf_get A i ^^^ v) * (i * 11400714819323198485 + 7046029254386353131)) % 2 ^ 64) := rfl
  have hs : ∀ m y : Nat, 72 ≤ m → (y % 2 ^ 64).testBit m = false := fun m y hm => Nat.testBit_lt_two_pow (Nat.lt_of_lt_of_le (Nat.mod_lt _ (by decide)) (Nat.pow_le_pow_right (by decide) (show 64 ≤ m by omega)))
  rw [e, Nat.testBit_xor, hs _ _ (by omega), Bool.xor_false, Nat.testBit_xor, Nat.testBit_shiftLeft, Nat.testBit_xor, bf_get_tb]
  by_cases h1 : j = i
  · subst h1
    rw [if_pos rfl]
    have e1 : 72 * (j + 1) + b - 72 * (j + 1) = b := by omega
    rw [e1]
    by_cases h2 : b < 72
    · simp [h2]
    · rw [hb b (by omega)]; simp [h2]
  · rw [if_neg h1, bf_get_tb]
    by_cases h2 : b < 72
    · by_cases h3 : 72 * (j + 1) + b ≥ 72 * (i + 1)
      · have h4 : j > i := by omega
        have h5 : ¬ (72 * (j + 1) + b - 72 * (i + 1) < 72) := by omega
        rw [hb _ (by omega)]
        simp [h2, h5]
      · simp [h2, h3]
    · simp [h2]
theorem bf_get_zero (i : Nat) : bf_get 0 i = 0 := by
  apply Nat.eq_of_testBit_eq
  intro b
  rw [bf_get_tb]
  simp
/-! values as fields of bits -/
theorem ev_x_eq {β : Type} (d : Value) (c : Nat) (k : Value → Option β) : ev_x d c k = k (ev_d d c) := by
  unfold ev_x ev_d
  simp only [ev_N_eq]
  cases Nat.beq (Nat.mod c 8) 1 with
  | true => rfl
  | false =>
    cases Nat.beq c 0 with
    | true => rfl
    | false =>
      cases Nat.beq (Nat.mod c 8) 3 with
      | true => rfl
      | false =>
        cases Nat.beq (Nat.mod c 8) 2 with
        | true => rfl
        | false =>
          cases Nat.beq (Nat.mod c 8) 4 with
          | true => rfl
          | false =>
            cases Nat.beq (Nat.mod c 8) 6 with
            | true => rfl
            | false => rfl
theorem ev_d_zero (d : Value) : ev_d d 0 = d := rfl
theorem ev_d_1 (d : Value) (n : Nat) : ev_d d (8 * n + 1) = .int (Int32.ofNat n) := by
  have h1 : Nat.mod (8 * n + 1) 8 = 1 := by show (8 * n + 1) % 8 = 1; omega
  have h2 : Nat.div (8 * n + 1) 8 = n := by show (8 * n + 1) / 8 = n; omega
  unfold ev_d
  rw [h1, h2]
  rfl
theorem nbeq {a b : Nat} (h : a ≠ b) : Nat.beq a b = false := by
  cases e : Nat.beq a b with
  | false => rfl
  | true => exact absurd (bq e) h
theorem ev_d_2 (d : Value) (n : Nat) : ev_d d (8 * n + 2) = .long (Int64.ofNat n) := by
  have h1 : Nat.mod (8 * n + 2) 8 = 2 := by show (8 * n + 2) % 8 = 2; omega
  have h2 : Nat.div (8 * n + 2) 8 = n := by show (8 * n + 2) / 8 = n; omega
  unfold ev_d
  rw [h1, h2, nbeq (show 8 * n + 2 ≠ 0 by omega)]
  rfl
theorem ev_d_3 (d : Value) (n : Nat) : ev_d d (8 * n + 3) = .ref n := by
  have h1 : Nat.mod (8 * n + 3) 8 = 3 := by show (8 * n + 3) % 8 = 3; omega
  have h2 : Nat.div (8 * n + 3) 8 = n := by show (8 * n + 3) / 8 = n; omega
  unfold ev_d
  rw [h1, h2, nbeq (show 8 * n + 3 ≠ 0 by omega)]
  rfl
theorem ev_d_5 (d : Value) (n : Nat) : ev_d d (8 * n + 5) = .retAddr n := by
  have h1 : Nat.mod (8 * n + 5) 8 = 5 := by show (8 * n + 5) % 8 = 5; omega
  have h2 : Nat.div (8 * n + 5) 8 = n := by show (8 * n + 5) / 8 = n; omega
  unfold ev_d
  rw [h1, h2, nbeq (show 8 * n + 5 ≠ 0 by omega)]
  rfl
theorem ev_d_6 (d : Value) (n : Nat) : ev_d d (8 * n + 6) = .double (UInt64.ofNat n) := by
  have h1 : Nat.mod (8 * n + 6) 8 = 6 := by show (8 * n + 6) % 8 = 6; omega
  have h2 : Nat.div (8 * n + 6) 8 = n := by show (8 * n + 6) / 8 = n; omega
  unfold ev_d
  rw [h1, h2, nbeq (show 8 * n + 6 ≠ 0 by omega)]
  rfl
theorem ev_e_ok {β : Type} {r : β} {v : Value} {k : Nat → Option β} (h : ev_e v k = some r) : ∃ x, x < 4722366482869645213696 ∧ (∀ d, ev_d d x = v) ∧ k x = some r := by
  cases v with
  | int x =>
    have h2 : ev_N (8 * u32 x + 1) k = some r := h
    rw [ev_N_eq] at h2
    exact ⟨_, by have := u32_lt x; omega, fun d => by rw [ev_d_1, u32_of], h2⟩
  | long x =>
    have h2 : ev_N (8 * u64 x + 2) k = some r := h
    rw [ev_N_eq] at h2
    exact ⟨_, by have := u64_lt x; omega, fun d => by rw [ev_d_2, u64_of], h2⟩
  | float x => exact eg_no h
  | double a =>
    obtain ⟨h1, h2⟩ := ei_ok (show ei (Nat.blt a.toNat 1048576) (ev_N (8 * a.toNat + 6) k) = some r from h)
    rw [ev_N_eq] at h2
    exact ⟨_, by have := bl h1; omega, fun d => by rw [ev_d_6, UInt64.ofNat_toNat], h2⟩
  | null => exact ⟨4, by decide, fun d => rfl, h⟩
  | ref a =>
    obtain ⟨h1, h2⟩ := ei_ok (show ei (Nat.blt a 1048576) (ev_N (8 * a + 3) k) = some r from h)
    rw [ev_N_eq] at h2
    exact ⟨_, by have := bl h1; omega, fun d => ev_d_3 d a, h2⟩
  | retAddr a =>
    obtain ⟨h1, h2⟩ := ei_ok (show ei (Nat.blt a 1048576) (ev_N (8 * a + 5) k) = some r from h)
    rw [ev_N_eq] at h2
    exact ⟨_, by have := bl h1; omega, fun d => ev_d_5 d a, h2⟩
/-! the tree of cells -/
def tok {T β : Type} (m : Nat) (g : T → Nat → ecq) (s : T → Nat → ecq → (T → β) → β) : Prop := ∀ (T0 : T) (k : Nat) (x : ecq), ∃ u : T, (∀ c, s T0 k x c = c u) ∧ ∀ j, g u j = if j % m = k % m then x else g T0 j
theorem tok0 {β : Type} : tok (β := β) 1 tg0 ts0 := by
  intro T0 k x
  refine ⟨x, fun c => rfl, fun j => ?_⟩
  rw [if_pos (by omega)]
  rfl
theorem tok1 {T β : Type} {m : Nat} {g : T → Nat → ecq} {s : T → Nat → ecq → (T → β) → β} (h : tok m g s) : tok (2 * m) (tg g) (ts s) := by
  intro T0 k x
  obtain ⟨a, b⟩ := T0
  have hg : ∀ (p q : T) (j : Nat), tg g (p, q) j = if j % 2 = 0 then g p (j / 2) else g q (j / 2) := by
    intro p q j
    show (Bool.rec (motive := fun _ => ecq) (g q (Nat.div j 2)) (g p (Nat.div j 2)) (Nat.beq (Nat.mod j 2) 0)) = _
    by_cases e : j % 2 = 0
    · rw [if_pos e]
      have e2 : Nat.mod j 2 = 0 := e
      rw [e2]
      rfl
    · rw [if_neg e, nbeq (show Nat.mod j 2 ≠ 0 from e)]
      rfl
  have hm : ∀ j : Nat, j % (2 * m) = 2 * (j / 2 % m) + j % 2 := by
    intro j
    rw [Nat.mod_mul]
    omega
  by_cases e : k % 2 = 0
  · obtain ⟨u, h1, h2⟩ := h a (k / 2) x
    refine ⟨(u, b), fun c => ?_, fun j => ?_⟩
    · show (Bool.rec (motive := fun _ => β) (s b (Nat.div k 2) x (fun u => c (a, u))) (s a (Nat.div k 2) x (fun u => c (u, b))) (Nat.beq (Nat.mod k 2) 0)) = _
      have e2 : Nat.mod k 2 = 0 := e
      rw [e2]
      exact h1 (fun u => c (u, b))
    · rw [hg, hg, h2, hm j, hm k]
      by_cases e3 : j % 2 = 0
      · rw [if_pos e3, if_pos e3]
        by_cases e4 : j / 2 % m = k / 2 % m
        · rw [if_pos e4, if_pos (by omega)]
        · rw [if_neg e4, if_neg (by omega)]
      · rw [if_neg e3, if_neg e3, if_neg (by omega)]
  · obtain ⟨u, h1, h2⟩ := h b (k / 2) x
    refine ⟨(a, u), fun c => ?_, fun j => ?_⟩
    · show (Bool.rec (motive := fun _ => β) (s b (Nat.div k 2) x (fun u => c (a, u))) (s a (Nat.div k 2) x (fun u => c (u, b))) (Nat.beq (Nat.mod k 2) 0)) = _
      rw [nbeq (show Nat.mod k 2 ≠ 0 from e)]
      exact h1 (fun u => c (a, u))
    · rw [hg, hg, h2, hm j, hm k]
      by_cases e3 : j % 2 = 0
      · rw [if_pos e3, if_pos e3, if_neg (by omega)]
      · rw [if_neg e3, if_neg e3]
        by_cases e4 : j / 2 % m = k / 2 % m
        · rw [if_pos e4, if_pos (by omega)]
        · rw [if_neg e4, if_neg (by omega)]
theorem tok9 {β : Type} : tok (β := β) 512 g9 s9 := tok1 (tok1 (tok1 (tok1 (tok1 (tok1 (tok1 (tok1 (tok1 tok0))))))))
/-! THE QUICK MACHINE IS SOUND, part 2: cells -/
theorem u32_sg (x : Int32) : (ev_sg (u32 x) : Int) = x.toInt + 2147483648 := by
  have h1 : x.toInt = (BitVec.toInt x.toBitVec) := rfl
  have h2 : u32 x = x.toBitVec.toNat := rfl
  have h3 := BitVec.toInt_eq_toNat_cond x.toBitVec
  have h4 : u32 x < 4294967296 := u32_lt x
  show (((u32 x + 2147483648) % 4294967296 : Nat) : Int) = _
  rw [h1, h3, ← h2]
  split <;> omega
theorem u32_in {i : Int32} (h : u32 i < 2147483648) : i.toNatClampNeg = u32 i ∧ ¬ i < 0 := by
  have h1 := u32_sg i
  have h2 : ev_sg (u32 i) = (u32 i + 2147483648) % 4294967296 := rfl
  have h3 : i.toInt = (u32 i : Int) := by omega
  constructor
  · show i.toInt.toNat = _
    omega
  · intro q
    have := Int32.lt_iff_toInt_lt.1 q
    have e : (0 : Int32).toInt = 0 := rfl
    omega
theorem u32_inj {x y : Int32} (h : u32 x = u32 y) : x = y := by rw [← u32_of x, h, u32_of]
theorem u64_inj {x y : Int64} (h : u64 x = u64 y) : x = y := by rw [← u64_of x, h, u64_of]
theorem ev_c_eq (c : ClassFile.Cond) (x y : Int32) : ev_c c (u32 x) (u32 y) = eg_cnd c x y := by
  have hx := u32_sg x
  have hy := u32_sg y
  have h1 : ∀ a b : Int32, Nat.beq (u32 a) (u32 b) = decide (a = b) := by
    intro a b
    by_cases e : a = b
    · rw [e, decide_eq_true rfl]; exact Nat.beq_refl _
    · rw [decide_eq_false e]; exact nbeq (fun q => e (u32_inj q))
  have h2 : ∀ a b : Int32, Nat.blt (ev_sg (u32 a)) (ev_sg (u32 b)) = decide (a < b) := by
    intro a b
    have ha := u32_sg a
    have hb := u32_sg b
    by_cases e : a < b
    · have := Int32.lt_iff_toInt_lt.1 e
      rw [decide_eq_true e]
      exact Nat.ble_eq_true_of_le (show ev_sg (u32 a) + 1 ≤ ev_sg (u32 b) by omega)
    · rw [decide_eq_false e]
      cases q : Nat.blt (ev_sg (u32 a)) (ev_sg (u32 b)) with
      | false => rfl
      | true => exact absurd (Int32.lt_iff_toInt_lt.2 (by have := bl q; omega)) e
  have h3 : ∀ a b : Int32, Nat.ble (ev_sg (u32 a)) (ev_sg (u32 b)) = decide (a ≤ b) := by
    intro a b
    have ha := u32_sg a
    have hb := u32_sg b
    by_cases e : a ≤ b
    · have := Int32.le_iff_toInt_le.1 e
      rw [decide_eq_true e]
      exact Nat.ble_eq_true_of_le (by omega)
    · rw [decide_eq_false e]
      cases q : Nat.ble (ev_sg (u32 a)) (ev_sg (u32 b)) with
      | false => rfl
      | true => exact absurd (Int32.le_iff_toInt_le.2 (by have := be q; omega)) e
  cases c with
  | eq => exact h1 x y
  | ne =>
    show (!(Nat.beq (u32 x) (u32 y))) = decide (¬ x = y)
    rw [h1, decide_not]
  | lt => exact h2 x y
  | ge => exact h3 y x
  | gt => exact h2 y x
  | le => exact h3 x y
section EVC
variable {σ : sg} {β : Type} {r : β}
theorem eh_at {h : eh} {a : Nat} (ha : 1 ≤ a ∧ a < h.2.1) : (eh_h σ h).1 a = some (ec_c σ (g9 h.1 a)) := by
  show (bif Nat.beq a 0 then σ.2.2 else bif Nat.blt a h.2.1 then some (ec_c σ (g9 h.1 a)) else none) = _
  have e : Nat.blt a h.2.1 = true := Nat.ble_eq_true_of_le (show a + 1 ≤ h.2.1 from ha.2)
  rw [e, nbeq (show a ≠ 0 by omega)]
  rfl
theorem eh_no {h : eh} {a : Nat} (h1 : 1 ≤ a) (ha : ¬ a < h.2.1) : (eh_h σ h).1 a = none := by
  show (bif Nat.beq a 0 then σ.2.2 else bif Nat.blt a h.2.1 then some (ec_c σ (g9 h.1 a)) else none) = _
  have e : Nat.blt a h.2.1 = false := by
    cases q : Nat.blt a h.2.1 with
    | false => rfl
    | true => exact absurd (bl q) ha
  rw [e, nbeq (show a ≠ 0 by omega)]
  rfl
theorem eh_0 (h : eh) : (eh_h σ h).1 0 = σ.2.2 := rfl
theorem ev_put_ok {h : eh} {a : Nat} {x : ecq} {c : eh → Option β} (hh : h.2.1 ≤ 512) (ha : 1 ≤ a ∧ a < h.2.1) (q : ev_put h a x c = some r) : ∃ h2, c h2 = some r ∧ eh_h σ h2 = eg_upd (eh_h σ h) a (ec_c σ x) := by
  obtain ⟨e, p, s⟩ := h
  obtain ⟨u, h1, h2⟩ := tok9 (β := Option β) e a x
  have q2 : s9 e a x (fun e2 => c (e2, p, s)) = some r := q
  rw [h1] at q2
  refine ⟨(u, p, s), q2, ?_⟩
  refine Prod.ext ?_ rfl
  funext k
  show _ = if k = a then some (ec_c σ x) else (eh_h σ (e, p, s)).1 k
  obtain ⟨ha1, ha2⟩ := ha
  replace ha2 : a < p := ha2
  by_cases hk0 : k = 0
  · subst hk0
    rw [if_neg (by omega), eh_0, eh_0]
  · by_cases hk : k < p
    · rw [eh_at (h := (u, p, s)) ⟨by omega, hk⟩, eh_at (h := (e, p, s)) ⟨by omega, hk⟩]
      show some (ec_c σ (g9 u k)) = _
      have hp : p ≤ 512 := hh
      rw [h2, Nat.mod_eq_of_lt (show k < 512 by omega), Nat.mod_eq_of_lt (show a < 512 by omega)]
      by_cases e3 : k = a
      · rw [if_pos e3, if_pos e3]
      · rw [if_neg e3, if_neg e3]
    · rw [eh_no (h := (u, p, s)) (by omega) hk, eh_no (h := (e, p, s)) (by omega) hk, if_neg (by omega)]
theorem ev_mk_ok {h : eh} {x : ecq} {k : Nat} {c : Nat → eh → Option β} (q : ev_mk h x k c = some r) : ∃ h2, c h.2.1 h2 = some r ∧ eh_h σ h2 = eg_mk (eh_h σ h) (ec_c σ x) k := by
  obtain ⟨e, p, s⟩ := h
  obtain ⟨q1, q0⟩ := ei_ok (show ei (Nat.blt p 512) (ei (Nat.ble 1 p) (s9 e p x (fun e2 => ev_N (Nat.succ p) (fun p2 => ev_N (Nat.add s k) (fun s2 => c p (e2, p2, s2)))))) = some r from q)
  obtain ⟨q3, q2⟩ := ei_ok q0
  obtain ⟨u, h1, h2⟩ := tok9 (β := Option β) e p x
  rw [h1, ev_N_eq, ev_N_eq] at q2
  refine ⟨(u, p + 1, s + k), q2, ?_⟩
  refine Prod.ext ?_ rfl
  funext j
  show _ = if j = p then some (ec_c σ x) else (eh_h σ (e, p, s)).1 j
  have hp := bl q1
  have hp1 := be q3
  by_cases hj0 : j = 0
  · subst hj0
    rw [if_neg (by omega), eh_0, eh_0]
  · by_cases hj : j < p + 1
    · rw [eh_at (h := (u, p + 1, s + k)) ⟨by omega, hj⟩]
      show some (ec_c σ (g9 u j)) = _
      rw [h2, Nat.mod_eq_of_lt (show j < 512 by omega), Nat.mod_eq_of_lt hp]
      by_cases e3 : j = p
      · rw [if_pos e3, if_pos e3]
      · rw [if_neg e3, if_neg e3, eh_at (h := (e, p, s)) ⟨by omega, show j < p by omega⟩]
    · rw [eh_no (h := (u, p + 1, s + k)) (by omega) hj, eh_no (h := (e, p, s)) (by omega) (show ¬ j < p by omega), if_neg (by omega)]
theorem ec_c_l (t : FieldType) (m : Nat) (d : Value) (A : Nat) : ec_c σ (.inl t, m, d, A) = .inl (t, m, fun i => bif Nat.blt i m then sv σ (ev_d d (bf_get A i)) else defaultValue t) := rfl
theorem ec_c_r (k m : Nat) (d : Value) (A : Nat) : ec_c σ (.inr k, m, d, A) = .inr (k, (List.range m).map fun i => sv σ (ev_d d (bf_get A i))) := rfl
theorem blt_t {a b : Nat} (h : a < b) : Nat.blt a b = true := Nat.ble_eq_true_of_le (show a + 1 ≤ b from h)
theorem ec_set_l {t : FieldType} {m k : Nat} {d : Value} {A x : Nat} {v : Value} (hk : k < m) (hx : x < 4722366482869645213696) (hv : ∀ d, ev_d d x = v) : ec_c σ (.inl t, m, d, bf_set A k x) = .inl (t, m, updV (fun i => bif Nat.blt i m then sv σ (ev_d d (bf_get A i)) else defaultValue t) k (sv σ v)) := by
  rw [ec_c_l]
  congr 3
  funext i
  show _ = if i = k then sv σ v else _
  rw [bf_get_set A k x i hx]
  by_cases e : i = k
  · rw [if_pos e, if_pos e, e, blt_t hk, hv]
    rfl
  · rw [if_neg e, if_neg e]
theorem ec_set_r {t m k : Nat} {d : Value} {A x : Nat} {v : Value} (hx : x < 4722366482869645213696) (hv : ∀ d, ev_d d x = v) : ec_c σ (.inr t, m, d, bf_set A k x) = .inr (t, ((List.range m).map fun i => sv σ (ev_d d (bf_get A i))).set k (sv σ v)) := by
  rw [ec_c_r]
  congr 2
  apply List.ext_getElem?
  intro i
  rw [List.getElem?_set]
  simp only [List.getElem?_map, List.length_map, List.length_range]
  by_cases hi : i < m
  · rw [List.getElem?_range hi]
    by_cases e : k = i
    · subst e
      rw [if_pos rfl, if_pos hi]
      simp only [Option.map_some]
      rw [bf_get_set A k x k hx, if_pos rfl, hv]
    · rw [if_neg e]
      simp only [Option.map_some]
      rw [bf_get_set A k x i hx, if_neg (fun q => e q.symm)]
  · have e0 : (List.range m)[i]? = none := List.getElem?_eq_none (by rw [List.length_range]; omega)
    rw [e0]
    by_cases e : k = i
    · subst e
      rw [if_pos rfl, if_neg hi]
      rfl
    · rw [if_neg e]
      rfl
theorem ev_nth_eq (la : eg_L) (k : Nat) : ev_nth la k = (la[k]?).getD none := by
  induction la generalizing k with
  | nil => rfl
  | cons a l ih =>
    cases k with
    | zero => rfl
    | succ k => exact ih k
theorem ev_nth_ok {la : eg_L} {k : Nat} {v : Value} (h : ev_nth la k = some v) : la[k]? = some (some v) := by
  rw [ev_nth_eq] at h
  cases e : la[k]? with
  | none => rw [e] at h; cases h
  | some o => rw [e] at h; cases o with
    | none => cases h
    | some w => cases h; rfl
theorem ev_ls_ok {la : eg_L} {k : Nat} {x : Option Value} {c : eg_L → Option β} (h : ev_ls la k x c = some r) : k < la.length ∧ c (la.set k x) = some r := by
  induction la generalizing k c with
  | nil => exact eg_no h
  | cons a l ih =>
    cases k with
    | zero => exact ⟨Nat.succ_pos _, h⟩
    | succ k =>
      obtain ⟨h1, h2⟩ := ih (show ev_ls l k x (fun u => c (a :: u)) = some r from h)
      exact ⟨Nat.succ_lt_succ h1, h2⟩
/-- the places and the stack, with what tokens stand for -/
def slQ (σ : sg) (la : eg_L) : eg_L := la.map (Option.map (sv σ))
def ss (σ : sg) (st : List Value) : List Value := st.map (sv σ)
theorem sl_at (la : eg_L) (k : Nat) : (slQ σ la)[k]? = (la[k]?).map (Option.map (sv σ)) := by simp [slQ]
theorem ev_1_ok {la : eg_L} {k : Nat} (h : ev_1 la k = true) : eg_cl (slQ σ la) k = slQ σ la := by
  cases k with
  | zero => rfl
  | succ j =>
    simp only [eg_cl]
    rw [sl_at]
    have h2 : (Option.rec (motive := fun _ => Bool) true (fun v => Nat.beq v.category 1) (ev_nth la j)) = true := h
    rw [ev_nth_eq] at h2
    cases e : la[j]? with
    | none => rfl
    | some o =>
      cases o with
      | none => rfl
      | some v =>
        rw [e] at h2
        have h3 : v.category = 1 := bq h2
        show (if (sv σ v).category = 2 then _ else _) = _
        rw [sv_cat, h3]
        rfl
end EVC
/-! THE QUICK MACHINE IS SOUND, part 3: what it does, the pure machine does -/
section EVD
variable {σ : sg} {β : Type} {r : β} {st : List Value} {h : eh}
theorem ev_ld_ok {t : Value → Bool} {la : eg_L} {k : Nat} {c : Value → Option β} (q : ev_ld t la k c = some r) : ∃ v, la[k]? = some (some v) ∧ t v = true ∧ c v = some r := by
  unfold ev_ld at q
  cases e : ev_nth la k with
  | none => rw [e] at q; exact eg_no q
  | some v =>
    rw [e] at q
    obtain ⟨q1, q2⟩ := ei_ok q
    exact ⟨v, ev_nth_ok e, q1, q2⟩
theorem ld_eg {tt : Value → Bool} {la : eg_L} {k : Nat} {v : Value} (hl : la[k]? = some (some v)) (ht : tt (sv σ v) = true) : eg_vld tt (slQ σ la) k (ss σ st) = some (slQ σ la, ss σ (v :: st)) := by
  unfold eg_vld eg_get
  rw [sl_at, hl]
  show (if tt (sv σ v) = true then _ else none) = _
  rw [if_pos ht]
  rfl
theorem sl_set (la : eg_L) (k : Nat) (x : Option Value) : slQ σ (la.set k x) = (slQ σ la).set k (x.map (sv σ)) := by simp [slQ, List.map_set]
theorem slQ_len (la : eg_L) : (slQ σ la).length = la.length := by simp [slQ]
theorem ev_s1_ok {t tt : Value → Bool} {la : eg_L} {k : Nat} {c : eg_L → List Value → Option β} (ht : ∀ v, t v = true → tt (sv σ v) = true ∧ v.category = 1) (q : ev_s1 t la k st c = some r) : ∃ l2 st2, eg_vst tt (slQ σ la) k (ss σ st) = some (slQ σ l2, ss σ st2) ∧ c l2 st2 = some r := by
  obtain ⟨v, l, rfl, q0⟩ := pV_ok q
  replace q := q0
  clear q0
  obtain ⟨q1, q⟩ := ei_ok q
  obtain ⟨q2, q⟩ := ei_ok q
  obtain ⟨q3, q⟩ := ev_ls_ok q
  refine ⟨_, _, ?_, q⟩
  obtain ⟨h1, h2⟩ := ht v q1
  show (if tt (sv σ v) = true then _ else none) = _
  rw [if_pos h1]
  unfold eg_put
  rw [sv_cat, h2, if_neg (by decide), if_pos (by rw [slQ_len]; exact q3), ev_1_ok q2, sl_set]
  rfl
theorem ev_s2_ok {la : eg_L} {k : Nat} {c : eg_L → List Value → Option β} (q : ev_s2 la k st c = some r) : ∃ l2 st2, eg_vst eg_isJ (slQ σ la) k (ss σ st) = some (slQ σ l2, ss σ st2) ∧ c l2 st2 = some r := by
  obtain ⟨v, l, rfl, q0⟩ := pV_ok q
  replace q := q0
  clear q0
  obtain ⟨q1, q⟩ := ei_ok q
  obtain ⟨q2, q⟩ := ei_ok q
  obtain ⟨q3, q⟩ := ev_ls_ok q
  obtain ⟨q4, q⟩ := ev_ls_ok q
  refine ⟨_, _, ?_, q⟩
  rw [List.length_set] at q4
  have hc : (sv σ v).category = 2 := by
    rw [sv_cat]
    cases v <;> first | rfl | cases q1
  show (if eg_isJ (sv σ v) = true then (match eg_put (slQ σ la) k (sv σ v) with
        | some l2 => some (l2, ss σ l)
        | none => none) else none) = _
  rw [if_pos (ev_iJ_sv σ q1)]
  unfold eg_put
  rw [if_pos hc, if_pos (by rw [slQ_len]; exact q4), ev_1_ok q2, sl_set, sl_set]
  rfl
theorem ev_inc_ok {la : eg_L} {k : Nat} {m : Int} {c : eg_L → Option β} (q : ev_inc la k m c = some r) : ∃ l2, eg_inc (slQ σ la) k m (ss σ st) = some (slQ σ l2, ss σ st) ∧ c l2 = some r := by
  unfold ev_inc at q
  cases e : ev_nth la k with
  | none => rw [e] at q; exact eg_no q
  | some v =>
    rw [e] at q
    obtain ⟨x, l, q1, q⟩ := pI_ok q
    cases q1
    obtain ⟨q2, q⟩ := ei_ok q
    rw [ev_f_eq] at q
    obtain ⟨q3, q⟩ := ev_ls_ok q
    refine ⟨_, ?_, q⟩
    unfold eg_inc eg_get
    rw [sl_at, ev_nth_ok e]
    show (match eg_put (slQ σ la) k (.int (x + Int32.ofInt m)) with
      | some l2 => some (l2, ss σ st)
      | none => none) = _
    unfold eg_put
    rw [if_neg (show ¬ (Value.int (x + Int32.ofInt m)).category = 2 from fun z => absurd (show (1 : Nat) = 2 from z) (by decide)), if_pos (by rw [slQ_len]; exact q3), ev_1_ok q2, sl_set]
    rfl
theorem ev_d1_ok {c : List Value → Option β} (q : ev_d1 st c = some r) : ∃ st2, eg_d1 (ss σ st) = some (ss σ st2) ∧ c st2 = some r := by
  obtain ⟨v, l, rfl, q0⟩ := pV_ok q
  replace q := q0
  clear q0
  obtain ⟨q1, q⟩ := ei_ok q
  refine ⟨_, ?_, q⟩
  show (if (sv σ v).category = 1 then _ else none) = _
  rw [if_pos (by rw [sv_cat]; exact bq q1)]
  rfl
theorem ev_p1_ok {c : List Value → Option β} (q : ev_p1 st c = some r) : ∃ st2, eg_p1 (ss σ st) = some (ss σ st2) ∧ c st2 = some r := by
  obtain ⟨v, l, rfl, q0⟩ := pV_ok q
  replace q := q0
  clear q0
  obtain ⟨q1, q⟩ := ei_ok q
  refine ⟨_, ?_, q⟩
  show (if (sv σ v).category = 1 then _ else none) = _
  rw [if_pos (by rw [sv_cat]; exact bq q1)]
  rfl
theorem ev_d2_ok {c : List Value → Option β} (q : ev_d2 st c = some r) : ∃ st2, eg_d2 (ss σ st) = some (ss σ st2) ∧ c st2 = some r := by
  obtain ⟨v, l, rfl, q0⟩ := pV_ok q
  replace q := q0
  clear q0
  cases e : Nat.beq v.category 2 with
  | true =>
    rw [e] at q
    refine ⟨_, ?_, q⟩
    have e2 : (sv σ v).category = 2 := by rw [sv_cat]; exact bq e
    cases l with
    | nil =>
      show (if (sv σ v).category = 2 then _ else none) = _
      rw [if_pos e2]
      rfl
    | cons b l =>
      show (if (sv σ v).category = 2 then _ else _) = _
      rw [if_pos e2]
      rfl
  | false =>
    rw [e] at q
    obtain ⟨b, l, rfl, q0⟩ := pV_ok q
    replace q := q0
    clear q0
    obtain ⟨q1, q⟩ := ei_ok q
    refine ⟨_, ?_, q⟩
    have e2 : ¬ (sv σ v).category = 2 := by
      rw [sv_cat]
      intro z
      rw [z] at e
      cases e
    show (if (sv σ v).category = 2 then _ else if (sv σ b).category = 1 then _ else none) = _
    rw [if_neg e2, if_pos (by rw [sv_cat]; exact bq q1)]
    rfl
theorem ev_j_ok {pc : Nat} {off : Int} {c : Nat → Option β} (q : ev_j pc off c = some r) : ∃ q2, 0 ≤ (pc : Int) + off ∧ ((pc : Int) + off).toNat = q2 ∧ c q2 = some r := by
  cases off with
  | ofNat m =>
    have q0 : ev_N (pc + m) c = some r := q
    rw [ev_N_eq] at q0
    refine ⟨pc + m, ?_, ?_, q0⟩
    · show 0 ≤ (pc : Int) + (m : Int)
      omega
    · show ((pc : Int) + (m : Int)).toNat = _
      omega
  | negSucc m =>
    obtain ⟨q1, q2⟩ := ei_ok q
    rw [ev_N_eq] at q2
    have := bl q1
    refine ⟨pc - (m + 1), ?_, ?_, q2⟩
    · rw [Int.negSucc_eq]; omega
    · rw [Int.negSucc_eq]; omega
theorem ev_if_ok {pc : Nat} {off : Int} {b : Bool} {F : Nat → Option β} (q : ev_j pc off (fun q2 => ev_w b (F (pc + 3)) (F q2)) = some r) : ∃ q3, (∀ rr, eg_if pc b off rr = some (q3, rr)) ∧ F q3 = some r := by
  obtain ⟨q2, h0, h1, q⟩ := ev_j_ok q
  cases b with
  | true => exact ⟨q2, fun rr => by unfold eg_if; rw [if_pos h0, if_pos rfl, h1], q⟩
  | false => exact ⟨pc + 3, fun rr => by unfold eg_if; rw [if_pos h0, if_neg (by decide)], q⟩
theorem ev_ac_ok {K0 : Nat} {c : Option Nat → Option Nat → List Value → Option β} (q : ev_ac K0 st c = some r) : ∃ w v l a b, st = w :: v :: l ∧ eg_an K0 (sv σ v) = some a ∧ eg_an K0 (sv σ w) = some b ∧ c a b l = some r := by
  obtain ⟨w, l, rfl, q0⟩ := pV_ok q
  replace q := q0
  clear q0
  obtain ⟨v, l, rfl, q0⟩ := pV_ok q
  replace q := q0
  clear q0
  have hsv : ∀ u a, eg_an K0 u = some a → eg_an K0 (sv σ u) = some a := by
    intro u a e
    cases u <;> first | exact e | cases e
  cases e1 : eg_an K0 v with
  | none => rw [e1] at q; exact eg_no q
  | some a =>
    rw [e1] at q
    cases e2 : eg_an K0 w with
    | none => rw [e2] at q; exact eg_no q
    | some b =>
      rw [e2] at q
      exact ⟨w, v, l, a, b, rfl, hsv _ _ e1, hsv _ _ e2, q⟩
theorem ev_sw_ok {o : Option (Nat × List Value)} {l : List Value} {c : Nat → List Value → Option β} (q : ev_sw o l c = some r) : ∃ q2 l2, o = some (q2, l2) ∧ c q2 l = some r := by
  cases o with
  | none => exact eg_no q
  | some p =>
    have q0 : ev_N p.1 (fun q => c q l) = some r := q
    rw [ev_N_eq] at q0
    exact ⟨p.1, p.2, rfl, q0⟩
theorem eg_j_any {pc q2 : Nat} {off : Int} {l l2 : List Value} (e : eg_j pc off l = some (q2, l2)) (l3 : List Value) : eg_j pc off l3 = some (q2, l3) := by
  unfold eg_j at e ⊢
  split at e
  · next h0 =>
    rw [if_pos h0]
    cases e
    rfl
  · cases e
theorem eg_ts_any {K0 pc q2 : Nat} {a b c : Int} {e : Array Int} {x : Int32} {l l2 : List Value} (q : eg_b K0 pc (.tableswitch a b c e) (.int x :: l) = some (q2, l2)) (l3 : List Value) : eg_b K0 pc (.tableswitch a b c e) (.int x :: l3) = some (q2, l3) := by
  simp only [eg_b] at q ⊢
  by_cases h1 : x.toInt < b ∨ c < x.toInt
  · rw [if_pos h1] at q ⊢
    exact eg_j_any q l3
  · rw [if_neg h1] at q ⊢
    cases h2 : e[(x.toInt - b).toNat]? with
    | none => rw [h2] at q; cases q
    | some off =>
      rw [h2] at q
      exact eg_j_any q l3
theorem eg_lsw_any {K0 pc q2 : Nat} {a : Int} {b : Array (Int × Int)} {x : Int32} {l l2 : List Value} (q : eg_b K0 pc (.lookupswitch a b) (.int x :: l) = some (q2, l2)) (l3 : List Value) : eg_b K0 pc (.lookupswitch a b) (.int x :: l3) = some (q2, l3) := by
  simp only [eg_b] at q ⊢
  split at q
  · next h1 =>
    rw [if_pos h1]
    exact eg_j_any q l3
  · cases q
theorem eg_in_u {i : Int32} {m : Nat} (h1 : u32 i < 2147483648) (h2 : u32 i < m) : eg_in i m = true := by
  obtain ⟨e1, e2⟩ := u32_in h1
  unfold eg_in
  rw [decide_eq_false e2, e1, decide_eq_true h2]
  rfl
theorem ev_al_ok {t : FieldType → Bool} {c : List Value → Option β} (q : ev_al t st h c = some r) : ∃ st2, eg_ald t (ss σ st) (eh_h σ h) = some (ss σ st2, eh_h σ h) ∧ c st2 = some r := by
  obtain ⟨i, l, rfl, q0⟩ := pI_ok q
  replace q := q0
  clear q0
  obtain ⟨a, l, rfl, q0⟩ := pA_ok q
  replace q := q0
  clear q0
  obtain ⟨ty, m, d, A, q1, q2, q⟩ := ev_at_ok q
  obtain ⟨ty, rfl, q0⟩ := ev_T_l q
  replace q := q0
  clear q0
  obtain ⟨q3, q⟩ := ei_ok q
  rw [ev_N_eq] at q
  obtain ⟨q4, q⟩ := ei_ok q
  obtain ⟨q5, q⟩ := ei_ok q
  rw [ev_N_eq, ev_x_eq] at q
  refine ⟨_, ?_, q⟩
  show (match (eh_h σ h).1 a with
    | some (.inl x) => if t x.1 = true ∧ eg_in i x.2.1 = true then some (x.2.2 i.toNatClampNeg :: ss σ l, eh_h σ h) else none
    | _ => none) = _
  rw [eh_at q1, q2, ec_c_l]
  show (if t ty = true ∧ eg_in i m = true then _ else none) = _
  rw [if_pos ⟨q3, eg_in_u (bl q4) (bl q5)⟩, (u32_in (bl q4)).1]
  dsimp only
  rw [q5]
  rfl
theorem ev_nr_ok (hσ : ∀ j, j < 256 → (σ.1 j).toInt8.toInt32 = σ.1 j) {ty : FieldType} {v : Value} {c : Value → Option β} (q : ev_nr ty v c = some r) : ∃ v2, sv σ v2 = narrow ty (sv σ v) ∧ c v2 = some r := by
  cases v with
  | int x =>
    refine ⟨_, ?_, q⟩
    cases ty <;> rfl
  | long x =>
    refine ⟨_, ?_, q⟩
    cases ty <;> rfl
  | float x => exact eg_no q
  | double b =>
    obtain ⟨q1, q⟩ := ei_ok q
    refine ⟨_, ?_, q⟩
    rw [Bool.and_eq_true] at q1
    rw [sv_dt σ q1.2]
    cases ty <;> first | rfl | cases q1.1
  | null => exact eg_no q
  | ref a => exact eg_no q
  | retAddr j =>
    obtain ⟨q1, q⟩ := ei_ok q
    refine ⟨_, ?_, q⟩
    cases ty with
    | int => rfl
    | byte =>
      show Value.int (σ.1 j) = .int (σ.1 j).toInt8.toInt32
      rw [hσ j (bl q1)]
    | _ => cases q1
theorem ev_as_ok (hσ : ∀ j, j < 256 → (σ.1 j).toInt8.toInt32 = σ.1 j) {K0 : Nat} {t : FieldType → Bool} {w ww : Value → Bool} (hw : ∀ v, w v = true → ww (sv σ v) = true) {c : List Value → eh → Option β} (q : ev_as K0 t w st h c = some r) : ∃ st2 h2, eg_ast K0 t ww (ss σ st) (eh_h σ h) = some (ss σ st2, eh_h σ h2) ∧ c st2 h2 = some r := by
  obtain ⟨v, l, rfl, q0⟩ := pV_ok q
  replace q := q0
  clear q0
  obtain ⟨i, l, rfl, q0⟩ := pI_ok q
  replace q := q0
  clear q0
  obtain ⟨a, l, rfl, q0⟩ := pA_ok q
  replace q := q0
  clear q0
  obtain ⟨ty, m, d, A, q1, q2, q⟩ := ev_at_ok q
  obtain ⟨ty, rfl, q0⟩ := ev_T_l q
  replace q := q0
  clear q0
  obtain ⟨q3, q⟩ := ei_ok q
  obtain ⟨q4, q⟩ := ei_ok q
  obtain ⟨q5, q⟩ := ei_ok q
  rw [ev_N_eq] at q
  obtain ⟨q6, q⟩ := ei_ok q
  obtain ⟨q7, q⟩ := ei_ok q
  obtain ⟨q8, q⟩ := ei_ok q
  obtain ⟨v2, q9, q⟩ := ev_nr_ok hσ q
  obtain ⟨x, x1, x2, q⟩ := ev_e_ok q
  rw [ev_N_eq] at q
  obtain ⟨h2, q, e⟩ := ev_put_ok (σ := σ) (be q8) q1 q
  refine ⟨_, h2, ?_, q⟩
  rw [e, ec_set_l (bl q7) x1 x2, q9]
  show (match (eh_h σ h).1 a with
    | some (.inl x) => if t x.1 = true ∧ ww (sv σ v) = true ∧ eg_in i x.2.1 = true ∧ K0 ≤ a then some (ss σ l, eg_upd (eh_h σ h) a (.inl (x.1, x.2.1, updV x.2.2 i.toNatClampNeg (narrow x.1 (sv σ v))))) else none
    | _ => none) = _
  rw [eh_at q1, q2, ec_c_l]
  show (if t ty = true ∧ ww (sv σ v) = true ∧ eg_in i m = true ∧ K0 ≤ a then _ else none) = _
  rw [if_pos ⟨q3, hw v q4, eg_in_u (bl q6) (bl q7), be q5⟩, (u32_in (bl q6)).1]
theorem ev_rf_ok {cl : List vw_C} {C : String} {v : Value} {c : Option β} (q : ev_rf cl h C v c = some r) : eg_ref cl (eh_h σ h) C (sv σ v) = true ∧ c = some r := by
  cases v with
  | null => exact ⟨rfl, q⟩
  | ref b =>
    obtain ⟨ty, m, d, A, q1, q2, q⟩ := ev_at_ok (show ev_at h b (fun ty _ _ _ => ev_T ty (fun _ => none) (fun k => Option.rec (motive := fun _ => Option β) none (fun y => ei (y.1 == C) c) cl[k]?)) = some r from q)
    obtain ⟨k, rfl, q0⟩ := ev_T_r q
    replace q := q0
    clear q0
    cases e : cl[k]? with
    | none => rw [e] at q; exact eg_no q
    | some y =>
      rw [e] at q
      obtain ⟨q3, q⟩ := ei_ok q
      refine ⟨?_, q⟩
      show (match (eh_h σ h).1 b with
        | some (.inr o) => (match cl[o.1]? with
          | some y => y.1 == C
          | none => false)
        | _ => false) = true
      rw [eh_at q1, q2, ec_c_r]
      show (match cl[k]? with
          | some y => y.1 == C
          | none => false) = true
      rw [e]
      exact q3
  | _ => exact eg_no q
theorem ev_aq_ok {cl : List vw_C} {K0 : Nat} {c : List Value → eh → Option β} (q : ev_aq cl K0 st h c = some r) : ∃ st2 h2, eg_asq cl K0 (ss σ st) (eh_h σ h) = some (ss σ st2, eh_h σ h2) ∧ c st2 h2 = some r := by
  obtain ⟨v, l, rfl, q0⟩ := pV_ok q
  replace q := q0
  clear q0
  obtain ⟨i, l, rfl, q0⟩ := pI_ok q
  replace q := q0
  clear q0
  obtain ⟨a, l, rfl, q0⟩ := pA_ok q
  replace q := q0
  clear q0
  obtain ⟨ty, m, d, A, q1, q2, q⟩ := ev_at_ok q
  split at q
  · next C =>
    obtain ⟨q3, q⟩ := ev_rf_ok (σ := σ) q
    obtain ⟨q5, q⟩ := ei_ok q
    rw [ev_N_eq] at q
    obtain ⟨q6, q⟩ := ei_ok q
    obtain ⟨q7, q⟩ := ei_ok q
    obtain ⟨q8, q⟩ := ei_ok q
    obtain ⟨x, x1, x2, q⟩ := ev_e_ok q
    rw [ev_N_eq] at q
    obtain ⟨h2, q, e⟩ := ev_put_ok (σ := σ) (be q8) q1 q
    refine ⟨_, h2, ?_, q⟩
    rw [e, ec_set_l (bl q7) x1 x2]
    show (match (eh_h σ h).1 a with
      | some (.inl x) => (match x.1 with
        | .object C => if eg_ref cl (eh_h σ h) C (sv σ v) = true ∧ eg_in i x.2.1 = true ∧ K0 ≤ a then some (ss σ l, eg_upd (eh_h σ h) a (.inl (x.1, x.2.1, updV x.2.2 i.toNatClampNeg (sv σ v)))) else none
        | _ => none)
      | _ => none) = _
    rw [eh_at q1, q2, ec_c_l]
    show (if eg_ref cl (eh_h σ h) C (sv σ v) = true ∧ eg_in i m = true ∧ K0 ≤ a then _ else none) = _
    rw [if_pos ⟨q3, eg_in_u (bl q6) (bl q7), be q5⟩, (u32_in (bl q6)).1]
  · exact eg_no q
theorem ev_len_ok {c : List Value → Option β} (q : ev_len st h c = some r) : ∃ st2, eg_len (ss σ st) (eh_h σ h) = some (ss σ st2, eh_h σ h) ∧ c st2 = some r := by
  obtain ⟨a, l, rfl, q0⟩ := pA_ok q
  replace q := q0
  clear q0
  obtain ⟨ty, m, d, A, q1, q2, q⟩ := ev_at_ok q
  obtain ⟨ty, rfl, q0⟩ := ev_T_l q
  replace q := q0
  clear q0
  rw [ev_f_eq] at q
  refine ⟨_, ?_, q⟩
  show (match (eh_h σ h).1 a with
    | some (.inl x) => some (Value.int (Int32.ofNat x.2.1) :: ss σ l, eh_h σ h)
    | _ => none) = _
  rw [eh_at q1, q2, ec_c_l]
  rfl
theorem ev_gf_ok {p : Option eg_E} {c : List Value → Option β} (q : ev_gf p st h c = some r) : ∃ st2, eg_gf p (ss σ st) (eh_h σ h) = some (ss σ st2, eh_h σ h) ∧ c st2 = some r := by
  obtain ⟨g, ci, kf, z, rfl, q0⟩ := ev_q_ok q
  replace q := q0
  clear q0
  obtain ⟨a, l, rfl, q0⟩ := pA_ok q
  replace q := q0
  clear q0
  obtain ⟨ty, m, d, A, q1, q2, q⟩ := ev_at_ok q
  obtain ⟨kk, rfl, q0⟩ := ev_T_r q
  replace q := q0
  clear q0
  obtain ⟨q3, q⟩ := ei_ok q
  obtain ⟨q4, q⟩ := ei_ok q
  obtain ⟨q5, q⟩ := ei_ok q
  rw [ev_N_eq, ev_x_eq] at q
  refine ⟨_, ?_, q⟩
  have ht : g = 2 ∨ g = 3 ∨ g = 4 ∨ g = 15 ∨ g = 16 := by
    rcases ev_or_ok q5 with e | e
    · exact Or.inl (bq e)
    · rcases ev_or_ok e with e | e
      · exact Or.inr (Or.inr (Or.inr (Or.inl (bq e))))
      · rcases ev_or_ok e with e | e
        · exact Or.inr (Or.inl (bq e))
        · rcases ev_or_ok e with e | e
          · exact Or.inr (Or.inr (Or.inr (Or.inr (bq e))))
          · exact Or.inr (Or.inr (Or.inl (bq e)))
  show (if g = 2 ∨ g = 3 ∨ g = 4 ∨ g = 15 ∨ g = 16 then (match (eh_h σ h).1 a with
      | some (.inr o) => if o.1 = ci then (match o.2[kf]? with
        | some v => some (v :: ss σ l, eh_h σ h)
        | none => none) else none
      | _ => none) else none) = _
  rw [if_pos ht, eh_at q1, q2, ec_c_r]
  show (if kk = ci then (match ((List.range m).map fun i => sv σ (ev_d d (bf_get A i)))[kf]? with
        | some v => some (v :: ss σ l, eh_h σ h)
        | none => none) else none) = _
  rw [if_pos (bq q3), List.getElem?_map, List.getElem?_range (bl q4)]
  rfl
theorem ev_ft_ok {ty : FieldType} {v : Value} (q : ev_ft ty v = true) : eg_fit ty (sv σ v) = true := by
  cases v with
  | retAddr j => cases ty <;> first | rfl | cases q
  | float x => cases q
  | double b =>
    replace q : (eg_tJ ty && Nat.ble 1 b.toNat) = true := q
    rw [Bool.and_eq_true] at q
    rw [sv_dt σ q.2]
    cases ty <;> first | rfl | cases q.1
  | _ => exact q
theorem ev_pf_ok {ty : Nat → Nat → FieldType} {K0 : Nat} {p : Option eg_E} {c : List Value → eh → Option β} (q : ev_pf ty K0 p st h c = some r) : ∃ st2 h2, eg_pf ty K0 p (ss σ st) (eh_h σ h) = some (ss σ st2, eh_h σ h2) ∧ c st2 h2 = some r := by
  obtain ⟨g, ci, kf, z, rfl, q0⟩ := ev_q_ok q
  replace q := q0
  clear q0
  obtain ⟨v, l, rfl, q0⟩ := pV_ok q
  replace q := q0
  clear q0
  obtain ⟨a, l, rfl, q0⟩ := pA_ok q
  replace q := q0
  clear q0
  obtain ⟨ty0, m, d, A, q1, q2, q⟩ := ev_at_ok q
  obtain ⟨kk, rfl, q0⟩ := ev_T_r q
  replace q := q0
  clear q0
  obtain ⟨q3, q⟩ := ei_ok q
  obtain ⟨q4, q⟩ := ei_ok q
  obtain ⟨q5, q⟩ := ei_ok q
  obtain ⟨q6, q⟩ := ei_ok q
  obtain ⟨q7, q⟩ := ei_ok q
  obtain ⟨q8, q⟩ := ei_ok q
  obtain ⟨x, x1, x2, q⟩ := ev_e_ok q
  rw [ev_N_eq] at q
  obtain ⟨h2, q, e⟩ := ev_put_ok (σ := σ) (be q8) q1 q
  refine ⟨_, h2, ?_, q⟩
  have ht : g = 2 ∨ g = 3 ∨ g = 4 := by
    rcases ev_or_ok q5 with e | e
    · exact Or.inl (bq e)
    · rcases ev_or_ok e with e | e
      · exact Or.inr (Or.inl (bq e))
      · exact Or.inr (Or.inr (bq e))
  rw [e, ec_set_r x1 x2]
  show (if g = 2 ∨ g = 3 ∨ g = 4 then (match (eh_h σ h).1 a with
      | some (.inr o) => if o.1 = ci ∧ kf < o.2.length ∧ eg_fit (ty ci kf) (sv σ v) = true ∧ K0 ≤ a then some (ss σ l, eg_upd (eh_h σ h) a (.inr (o.1, o.2.set kf (sv σ v)))) else none
      | _ => none) else none) = _
  rw [if_pos ht, eh_at q1, q2, ec_c_r]
  show (if kk = ci ∧ kf < ((List.range m).map fun i => sv σ (ev_d d (bf_get A i))).length ∧ eg_fit (ty ci kf) (sv σ v) = true ∧ K0 ≤ a then _ else none) = _
  rw [if_pos ⟨bq q3, by rw [List.length_map, List.length_range]; exact bl q4, ev_ft_ok q6, be q7⟩]
theorem ev_bl_ok {ty : Nat → FieldType} : ∀ (n : Nat) {c : Nat → Option β}, ev_bl ty n c = some r → ∃ A, (∀ i, i < n → ev_d .null (bf_get A i) = defaultValue (ty i)) ∧ c A = some r
  | 0, c, q => ⟨0, fun i hi => by omega, q⟩
  | n + 1, c, q => by
    obtain ⟨A, h1, q⟩ := ev_bl_ok n (c := fun A => ev_e (defaultValue (ty n)) (fun x => ev_N (bf_set A n x) c)) q
    obtain ⟨x, x1, x2, q⟩ := ev_e_ok q
    rw [ev_N_eq] at q
    refine ⟨_, fun i hi => ?_, q⟩
    rw [bf_get_set A n x i x1]
    by_cases e : i = n
    · rw [if_pos e, x2, e]
    · rw [if_neg e]
      exact h1 i (by omega)
theorem sv_def (t : FieldType) : sv σ (defaultValue t) = defaultValue t := by cases t <;> rfl
theorem ev_nw_ok {cl : List vw_C} {ty : Nat → Nat → FieldType} {p : Option eg_E} {c : List Value → eh → Option β} (q : ev_nw cl ty p st h c = some r) : ∃ st2 h2, eg_nw cl ty p (ss σ st) (eh_h σ h) = some (ss σ st2, eh_h σ h2) ∧ c st2 h2 = some r := by
  obtain ⟨g, ci, kf, z, rfl, q0⟩ := ev_q_ok q
  replace q := q0
  clear q0
  cases e : cl[ci]? with
  | none => rw [e] at q; exact eg_no q
  | some y =>
    rw [e] at q
    obtain ⟨q1, q⟩ := ei_ok q
    rw [ev_N_eq] at q
    obtain ⟨A, a1, q⟩ := ev_bl_ok _ q
    obtain ⟨h2, q, e2⟩ := ev_mk_ok (σ := σ) q
    refine ⟨_, h2, ?_, q⟩
    have ht : g = 11 ∨ g = 14 := by
      rcases ev_or_ok q1 with e | e
      · exact Or.inl (bq e)
      · exact Or.inr (bq e)
    have e3 : ((List.range y.2.2).map fun i => sv σ (ev_d .null (bf_get A i))) = eg_blank (ty ci) y.2.2 := by
      unfold eg_blank
      apply List.map_congr_left
      intro i hi
      rw [a1 i (List.mem_range.1 hi), sv_def]
    rw [e2, ec_c_r, e3]
    show (if g = 11 ∨ g = 14 then (match cl[ci]? with
      | some y => some (.ref (eh_h σ h).2.1 :: ss σ st, eg_mk (eh_h σ h) (.inr (ci, eg_blank (ty ci) y.2.2)) y.2.2)
      | none => none) else none) = _
    rw [if_pos ht, e]
    rfl
theorem ev_na_ok {t : FieldType} {c : List Value → eh → Option β} (q : ev_na t st h c = some r) : ∃ st2 h2, eg_na t (ss σ st) (eh_h σ h) = some (ss σ st2, eh_h σ h2) ∧ c st2 h2 = some r := by
  obtain ⟨n, l, rfl, q0⟩ := pI_ok q
  replace q := q0
  clear q0
  rw [ev_N_eq] at q
  obtain ⟨q1, q⟩ := ei_ok q
  obtain ⟨q2, q⟩ := ei_ok q
  obtain ⟨h2, q, e2⟩ := ev_mk_ok (σ := σ) q
  refine ⟨_, h2, ?_, q⟩
  obtain ⟨e3, e4⟩ := u32_in (bl q1)
  have e5 : ec_c σ (.inl t, u32 n, defaultValue t, 0) = .inl (t, u32 n, fun _ => defaultValue t) := by
    rw [ec_c_l]
    congr 3
    funext i
    rw [bf_get_zero, ev_d_zero, sv_def]
    cases Nat.blt i (u32 n) <;> rfl
  rw [e2, e5]
  show (if ¬ n < 0 ∧ n.toNatClampNeg * componentBytes t ≤ 536870912 then _ else none) = _
  rw [if_pos ⟨e4, by rw [e3]; exact be q2⟩, e3]
  rfl
theorem ev_nq_ok {cl : List vw_C} {p : Option eg_E} {c : List Value → eh → Option β} (q : ev_nq cl p st h c = some r) : ∃ st2 h2, eg_nq cl p (ss σ st) (eh_h σ h) = some (ss σ st2, eh_h σ h2) ∧ c st2 h2 = some r := by
  obtain ⟨g, ci, kf, z, rfl, q0⟩ := ev_q_ok q
  replace q := q0
  clear q0
  cases e : cl[ci]? with
  | none => rw [e] at q; exact eg_no q
  | some y =>
    rw [e] at q
    obtain ⟨q1, q⟩ := ei_ok q
    obtain ⟨st2, h2, e1, q⟩ := ev_na_ok (σ := σ) q
    refine ⟨st2, h2, ?_, q⟩
    show (if g = 14 then (match cl[ci]? with
      | some y => eg_na (.object y.1) (ss σ st) (eh_h σ h)
      | none => none) else none) = _
    rw [if_pos (bq q1), e]
    exact e1
theorem ev_kv_ok {v : Value} {c : Value → Option β} (q : ev_kv v c = some r) : sv σ v = v ∧ c v = some r := by
  cases v with
  | int x => exact ⟨rfl, by rw [← q]; exact (ev_f_eq x (fun z => c (.int z))).symm⟩
  | long x => exact ⟨rfl, by rw [← q]; exact (ev_g_eq x (fun z => c (.long z))).symm⟩
  | ref a => exact ⟨rfl, q⟩
  | _ => exact eg_no q
theorem ev_kk_ok {t : Nat} {p : Option eg_E} {c : Value → Option β} (q : ev_kk t p c = some r) : ∃ v, eg_kk t p (ss σ st) (eh_h σ h) = some (ss σ (v :: st), eh_h σ h) ∧ c v = some r := by
  obtain ⟨g, ci, kf, z, rfl, q0⟩ := ev_q_ok q
  replace q := q0
  clear q0
  obtain ⟨q1, q⟩ := ei_ok q
  obtain ⟨e, q⟩ := ev_kv_ok (σ := σ) q
  refine ⟨z, ?_, q⟩
  show (if g = t then some (z :: ss σ st, eh_h σ h) else none) = some (sv σ z :: ss σ st, eh_h σ h)
  rw [if_pos (bq q1), e]
theorem ev_ks_ok {p : Option eg_E} {c : Value → Option β} (q : ev_ks p c = some r) : ∃ v, eg_ks p (ss σ st) (eh_h σ h) = some (ss σ (v :: st), eh_h σ h) ∧ c v = some r := by
  obtain ⟨g, ci, kf, z, rfl, q0⟩ := ev_q_ok q
  replace q := q0
  clear q0
  obtain ⟨q1, q⟩ := ei_ok q
  obtain ⟨e, q⟩ := ev_kv_ok (σ := σ) q
  refine ⟨z, ?_, q⟩
  show (if g = 12 ∨ g = 18 then some (z :: ss σ st, eh_h σ h) else none) = some (sv σ z :: ss σ st, eh_h σ h)
  rw [if_pos, e]
  rcases ev_or_ok q1 with e | e
  · exact Or.inl (bq e)
  · exact Or.inr (bq e)
theorem ss_sum (l : List Value) : eg_sum (ss σ l) = eg_sum l := by
  unfold eg_sum ss
  rw [List.map_map]
  congr 1
  apply List.map_congr_left
  intro v _
  exact sv_cat σ v
end EVD
/-! THE QUICK MACHINE IS SOUND, part 4: rows laid into rows, calls done at once, calls, answers -/
section EVF
variable {σ : sg} {β : Type} {r : β} {st : List Value} {h : eh}
theorem ev_up_ok {A : Nat} : ∀ (k : Nat) {sp dp B : Nat} {c : Nat → Option β}, ev_up A k sp dp B c = some r → ∃ B2, (∀ j, bf_get B2 j = if dp ≤ j ∧ j < dp + k then bf_get A (sp + (j - dp)) else bf_get B j) ∧ c B2 = some r
  | 0, sp, dp, B, c, q => ⟨B, fun j => by rw [if_neg (by omega)], q⟩
  | k + 1, sp, dp, B, c, q => by
    have q1 : ev_N (bf_set B dp (bf_get A sp)) (fun B2 => ev_N (Nat.succ sp) (fun sp2 => ev_N (Nat.succ dp) (fun dp2 => ev_up A k sp2 dp2 B2 c))) = some r := q
    rw [ev_N_eq, ev_N_eq, ev_N_eq] at q1
    obtain ⟨B2, h1, h2⟩ := ev_up_ok k q1
    refine ⟨B2, fun j => ?_, h2⟩
    rw [h1 j, bf_get_set B dp _ j (bf_get_lt A sp)]
    by_cases e1 : j = dp
    · subst e1
      rw [if_neg (by omega), if_pos rfl, if_pos (by omega)]
      congr 1
      omega
    · by_cases e2 : dp + 1 ≤ j ∧ j < dp + 1 + k
      · rw [if_pos e2, if_pos (by omega)]
        congr 1
        omega
      · rw [if_neg e2, if_neg e1, if_neg (by omega)]
theorem ev_z_ok {d : Value} {c : Option β} (q : ev_z d c = some r) : d = .int 0 ∧ c = some r := by
  cases d with
  | int x =>
    obtain ⟨q1, q2⟩ := ei_ok (show ei (Nat.beq (u32 x) 0) c = some r from q)
    have e : u32 x = u32 0 := bq q1
    rw [u32_inj e]
    exact ⟨rfl, q2⟩
  | _ => exact eg_no q
theorem ev_by_ok {t : FieldType ⊕ Nat} (q : ev_by t = true) : t = .inl .byte := by
  unfold ev_by at q
  split at q
  · rfl
  · cases q
theorem ev_cp_ok {cl : List vw_C} {K0 : Nat} {c : List Value → eh → Option β} (q : ev_cp K0 st h c = some r) : ∃ st2 h2, (∀ x : eg_E, x.1 = 17 → eg_cp cl K0 (some x) (ss σ st) (eh_h σ h) = some (ss σ st2, eh_h σ h2)) ∧ c st2 h2 = some r := by
  obtain ⟨k, l, rfl, q0⟩ := pI_ok q
  obtain ⟨dp, l, rfl, q1⟩ := pI_ok q0
  obtain ⟨b, l, rfl, q2⟩ := pA_ok q1
  obtain ⟨sp, l, rfl, q3⟩ := pI_ok q2
  obtain ⟨a, l, rfl, q4⟩ := pA_ok q3
  clear q q0 q1 q2 q3
  obtain ⟨t1, m1, d1, A, a1, a2, q5⟩ := ev_at_ok q4
  obtain ⟨t2, m2, d2, B, b1, b2, q6⟩ := ev_at_ok q5
  clear q4 q5
  obtain ⟨e1, q7⟩ := ei_ok q6
  obtain ⟨e2, q8⟩ := ei_ok q7
  clear q6 q7
  have e3 := ev_by_ok e1
  have e4 := ev_by_ok e2
  subst e3 e4
  obtain ⟨e5, q9⟩ := ev_z_ok q8
  obtain ⟨e6, q10⟩ := ev_z_ok q9
  subst e5 e6
  clear q8 q9
  rw [ev_N_eq, ev_N_eq, ev_N_eq] at q10
  obtain ⟨c1, q11⟩ := ei_ok q10
  obtain ⟨c2, q12⟩ := ei_ok q11
  obtain ⟨c3, q13⟩ := ei_ok q12
  obtain ⟨c4, q14⟩ := ei_ok q13
  obtain ⟨c5, q15⟩ := ei_ok q14
  obtain ⟨c6, q16⟩ := ei_ok q15
  clear q10 q11 q12 q13 q14 q15
  obtain ⟨B2, hB, q17⟩ := ev_up_ok _ q16
  obtain ⟨h2, q18, e⟩ := ev_put_ok (σ := σ) (be c6) b1 q17
  refine ⟨l, h2, fun x hx => ?_, q18⟩
  have c1' : u32 sp + u32 k ≤ m1 := be c1
  have c2' : u32 dp + u32 k ≤ m2 := be c2
  have c3' : m1 + m2 ≤ 2147483647 := be c3
  obtain ⟨k1, k2⟩ := u32_in (i := k) (by omega)
  obtain ⟨s1, s2⟩ := u32_in (i := sp) (by omega)
  obtain ⟨d1, d2⟩ := u32_in (i := dp) (by omega)
  rw [e]
  show (if x.1 = 17 then (match (eh_h σ h).1 a, (eh_h σ h).1 b with
      | some (.inl x), some (.inl y) => if x.1 = y.1 ∧ ¬ sp < 0 ∧ ¬ dp < 0 ∧ ¬ k < 0 ∧ sp.toNatClampNeg + k.toNatClampNeg ≤ x.2.1 ∧ dp.toNatClampNeg + k.toNatClampNeg ≤ y.2.1 ∧ eg_refs cl (eh_h σ h) x.1 x.2.2 sp.toNatClampNeg k.toNatClampNeg = true ∧ eg_sum (ss σ l) ≤ 8 ∧ K0 ≤ b then
          some (ss σ l, eg_upd (eh_h σ h) b (.inl (y.1, y.2.1, va_cpy x.2.2 y.2.2 sp.toNatClampNeg dp.toNatClampNeg k.toNatClampNeg))) else none
      | _, _ => none) else none) = _
  rw [if_pos hx, eh_at a1, a2, eh_at b1, b2, ec_c_l, ec_c_l, ec_c_l]
  dsimp only
  rw [k1, s1, d1]
  rw [if_pos ⟨rfl, s2, d2, k2, c1', c2', rfl, by rw [ss_sum]; exact be c4, be c5⟩]
  congr 6
  funext j
  unfold va_cpy
  rw [hB j]
  by_cases ej : u32 dp ≤ j ∧ j < u32 dp + u32 k
  · rw [if_pos ej, if_pos ej]
    dsimp only
    rw [blt_t (show u32 sp + (j - u32 dp) < m1 by omega), blt_t (show j < m2 by omega)]
  · rw [if_neg ej, if_neg ej]
theorem eg_mx_ss {f : Int32 → Int32 → Int32} {h2 H : eg_H} {l : List Value} (q : eg_mx f st H = some (l, h2)) (H2 : eg_H) : ∃ v l2, l = v :: l2 ∧ eg_mx f (ss σ st) H2 = some (ss σ l, H2) := by
  unfold eg_mx at q
  split at q
  · next y x r =>
    split at q
    · next hs =>
      cases q
      refine ⟨_, _, rfl, ?_⟩
      show (if eg_sum (ss σ r) ≤ 8 then _ else none) = _
      rw [if_pos (by rw [ss_sum]; exact hs)]
      rfl
    · cases q
  · cases q
theorem eg_mxl_ss {f : Int64 → Int64 → Int64} {h2 H : eg_H} {l : List Value} (q : eg_mxl f st H = some (l, h2)) (H2 : eg_H) : ∃ v l2, l = v :: l2 ∧ eg_mxl f (ss σ st) H2 = some (ss σ l, H2) := by
  unfold eg_mxl at q
  split at q
  · next y x r =>
    split at q
    · next hs =>
      cases q
      refine ⟨_, _, rfl, ?_⟩
      show (if eg_sum (ss σ r) ≤ 8 then _ else none) = _
      rw [if_pos (by rw [ss_sum]; exact hs)]
      rfl
    · cases q
  · cases q
theorem eg_mm_ss {p : Option eg_E} {h2 H : eg_H} {l : List Value} (q : eg_mm p st H = some (l, h2)) (H2 : eg_H) : ∃ v l2, l = v :: l2 ∧ eg_mm p (ss σ st) H2 = some (ss σ l, H2) := by
  unfold eg_mm at q ⊢
  cases p with
  | none => cases q
  | some z =>
    dsimp only at q ⊢
    by_cases e1 : z.1 = 20
    · rw [if_pos e1] at q ⊢
      exact eg_mx_ss q H2
    · rw [if_neg e1] at q ⊢
      by_cases e2 : z.1 = 21
      · rw [if_pos e2] at q ⊢
        exact eg_mx_ss q H2
      · rw [if_neg e2] at q ⊢
        by_cases e3 : z.1 = 22
        · rw [if_pos e3] at q ⊢
          exact eg_mxl_ss q H2
        · rw [if_neg e3] at q ⊢
          by_cases e4 : z.1 = 23
          · rw [if_pos e4] at q ⊢
            exact eg_mxl_ss q H2
          · rw [if_neg e4] at q
            cases q
theorem ev_mm_ok {p : Option eg_E} {H : eg_H} {c : Value → List Value → Option β} (q : ev_mm p st H c = some r) (H2 : eg_H) : ∃ v l, eg_mm p (ss σ st) H2 = some (ss σ (v :: l), H2) ∧ c v l = some r := by
  unfold ev_mm at q
  cases e : eg_mm p st H with
  | none => rw [e] at q; exact eg_no q
  | some z =>
    rw [e] at q
    obtain ⟨l, h2⟩ := z
    obtain ⟨v, l2, rfl, e1⟩ := eg_mm_ss (σ := σ) e H2
    obtain ⟨e2, q2⟩ := ev_kv_ok (σ := σ) (show ev_kv v (fun v => c v l2) = some r from q)
    exact ⟨v, l2, e1, q2⟩
theorem ev_w_ok {b : Bool} {x y : Option β} (q : ev_w b x y = some r) : (b = false ∧ x = some r) ∨ (b = true ∧ y = some r) := by
  cases b with
  | false => exact Or.inl ⟨rfl, q⟩
  | true => exact Or.inr ⟨rfl, q⟩
theorem ev_oi_ok {p : Option eg_E} {c : List Value → Option β} {e : Option β} (q : ev_oi p st c e = some r) : (∃ st2, eg_oi p (ss σ st) (eh_h σ h) = some (ss σ st2, eh_h σ h) ∧ c st2 = some r) ∨ e = some r := by
  obtain ⟨g, ci, kf, z, rfl, q0⟩ := ev_q_ok q
  rcases ev_w_ok q0 with ⟨h1, q1⟩ | ⟨h1, q1⟩
  · exact Or.inr q1
  · obtain ⟨a, l, rfl, q2⟩ := pA_ok q1
    obtain ⟨h2, q3⟩ := ei_ok q2
    refine Or.inl ⟨l, ?_, q3⟩
    show (if g = 13 then (if eg_sum (ss σ l) ≤ 8 then some (ss σ l, eh_h σ h) else none) else none) = _
    rw [if_pos (bq h1), if_pos (by rw [ss_sum]; exact be h2)]
theorem ev_is_ok {cl : List vw_C} {K0 : Nat} {p : Option eg_E} {c : List Value → Option β} {c2 : List Value → eh → Option β} {e : Option β} (q : ev_is K0 p st h c c2 e = some r) : (∃ st2 h2, eg_is cl K0 p (ss σ st) (eh_h σ h) = some (ss σ st2, eh_h σ h2) ∧ ((h2 = h ∧ c st2 = some r) ∨ c2 st2 h2 = some r)) ∨ e = some r := by
  obtain ⟨g, ci, kf, z, rfl, q0⟩ := ev_q_ok q
  rcases ev_w_ok q0 with ⟨h1, q1⟩ | ⟨h1, q1⟩
  · rcases ev_w_ok q1 with ⟨h2, q2⟩ | ⟨h2, q2⟩
    · obtain ⟨v, l, e1, q3⟩ := ev_mm_ok (σ := σ) q2 (eh_h σ h)
      refine Or.inl ⟨_, h, ?_, Or.inl ⟨rfl, q3⟩⟩
      unfold eg_is
      rw [e1]
    · obtain ⟨st2, h3, e1, q3⟩ := ev_cp_ok (σ := σ) (cl := cl) q2
      refine Or.inl ⟨st2, h3, ?_, Or.inr q3⟩
      unfold eg_is
      rw [eg_mm_no (show g < 20 by have := bq h2; omega)]
      exact e1 _ (bq h2)
  · exact Or.inr q1
theorem ev_tk_ok : ∀ (n : Nat) {st acc : List Value} {c : List Value → List Value → Option β}, ev_tk n st acc c = some r → n ≤ st.length ∧ c ((st.take n).reverse ++ acc) (st.drop n) = some r
  | 0, st, acc, c, q => ⟨Nat.zero_le _, q⟩
  | n + 1, st, acc, c, q => by
    obtain ⟨v, l, rfl, q0⟩ := pV_ok (show pV st (fun v r => ev_tk n r (v :: acc) c) = some r from q)
    obtain ⟨h1, h2⟩ := ev_tk_ok n q0
    refine ⟨Nat.succ_le_succ h1, ?_⟩
    simpa using h2
end EVF
/-! the run -/
/-- from these frames on, with an answer for the upmost, the run ends, and what K says holds then -/
def ew (σ : sg) (K : Option Value → eg_H → Prop) : List fr → Option Value → eg_H → Prop
  | [], v, h => K v h
  | f :: fs, v, h => ∃ D, mx f.2.1 = some D ∧ eg_K cl kY 3 mt f.1 D.2.2.2.1 D.2.2.2.2 (f.2.2.1, slQ σ f.2.2.2.1, v.toList ++ ss σ f.2.2.2.2, h) (fun v1 h1 => ew σ K fs v1 h1)
def ewS (σ : sg) (K : Option Value → eg_H → Prop) (s : es) : Prop := match s.1 with
  | [] => K (s.2.1.map (sv σ)) (eh_h σ s.2.2)
  | f :: fs => ew σ K (f :: fs) none (eh_h σ s.2.2)
/-- what an oracle tells is so -/
def ob_ok (σ : sg) (ob : eo) : Prop := ∀ (j : Nat) (as : List Value) (h : eh) (p : Nat × eg_L × List Value × eh), ob j as h = some p → ∀ D, mt j = some D → ∀ d, 20 ≤ d → ∀ K, eg_K cl kY 3 mt d D.2.2.2.1 D.2.2.2.2 (p.1, slQ σ p.2.1, ss σ p.2.2.1, eh_h σ p.2.2.2) K → eg_Y cl kY 3 mt (d + 1) j (ss σ as) (eh_h σ h) K
theorem ob_ok0 (σ : sg) : ob_ok σ eo0 := fun _ _ _ _ q => by cases q
section EVG
variable {σ : sg} {K : Option Value → eg_H → Prop} {s : es} {d j pc n : Nat} {la : eg_L} {st : List Value} {fs : List fr} {h : eh} {D : eg_D} {ob : eo}
theorem nx_ok {q : Nat} (hD : mx j = some D) (e : nx d j fs h la q st = some s) (k : ewS σ K s) : eg_K cl kY 3 mt d D.2.2.2.1 D.2.2.2.2 (q, slQ σ la, ss σ st, eh_h σ h) (fun v1 h1 => ew σ K fs v1 h1) := by
  have e2 : s = ((d, j, q, la, st) :: fs, none, h) := (Option.some.inj e).symm
  subst e2
  obtain ⟨D2, h2, k2⟩ := k
  have e3 : D2 = D := Option.some.inj (h2.symm.trans hD)
  subst e3
  exact k2
theorem ev_end_ok {v : Option Value} (e : ev_end v fs h = some s) (k : ewS σ K s) : ew σ K fs (v.map (sv σ)) (eh_h σ h) := by
  cases fs with
  | nil =>
    have e2 : s = ([], v, h) := (Option.some.inj e).symm
    subst e2
    exact k
  | cons f fs =>
    cases v with
    | none =>
      have e2 : s = (f :: fs, none, h) := (Option.some.inj e).symm
      subst e2
      exact k
    | some x =>
      have e2 : s = ((f.1, f.2.1, f.2.2.1, f.2.2.2.1, x :: f.2.2.2.2) :: fs, none, h) := (Option.some.inj e).symm
      subst e2
      exact k
theorem eg_row_sv (as : List Value) : eg_row (ss σ as) = slQ σ (eg_row as) := by
  unfold eg_row ss slQ
  rw [List.flatMap_map, List.map_flatMap]
  congr 1
  funext v
  rw [sv_cat]
  by_cases e : v.category = 2
  · rw [if_pos e, if_pos e]; rfl
  · rw [if_neg e, if_neg e]; rfl
theorem eg_in0_sv {as : List Value} {ml : Nat} {l : eg_L} (e : eg_in0 as ml = some l) : eg_in0 (ss σ as) ml = some (slQ σ l) := by
  unfold eg_in0 at e ⊢
  rw [eg_row_sv, slQ_len]
  split at e
  · next hl =>
    rw [if_pos hl]
    cases e
    simp [slQ]
  · cases e
theorem ev_go_ok (hob : ob_ok σ ob) {j2 : Nat} {as r : List Value} (e : ev_go ob j2 as r d j pc la fs h = some s) (k : ewS σ K s) : eg_sum r ≤ 8 ∧ eg_Y cl kY 3 mt d j2 (ss σ as) (eh_h σ h) (fun v1 h1 => ew σ K ((d, j, pc + 3, la, r) :: fs) v1 h1) := by
  cases d with
  | zero => exact eg_no e
  | succ d2 =>
    obtain ⟨q1, q2⟩ := ei_ok (show ei (Nat.ble (eg_sum r) 8) (ev_N (Nat.add pc 3) (fun q => Option.rec (motive := fun _ => Option es) (Option.rec (motive := fun _ => Option es) none (fun ml => Option.rec (motive := fun _ => Option es) none (fun l2 => ev_sp l2 (fun l3 => some ((d2, Nat.succ j2, 0, l3, []) :: (d2 + 1, j, q, la, r) :: fs, none, h))) (eg_in0 as ml)) (ev_ml (Nat.succ j2))) (fun p => Prod.rec (motive := fun _ => Option es) (fun pc3 p => Prod.rec (motive := fun _ => Option es) (fun la3 p => Prod.rec (motive := fun _ => Option es) (fun st3 h3 => ei (Nat.ble 20 d2) (some ((d2, Nat.succ j2, pc3, la3, st3) :: (d2 + 1, j, q, la, r) :: fs, none, h3))) p) p) p) (ob j2 as h))) = some s from e)
    rw [ev_N_eq] at q2
    refine ⟨be q1, ?_⟩
    cases e1 : ob j2 as h with
    | some p =>
      rw [e1] at q2
      obtain ⟨pc3, la3, st3, h3⟩ := p
      obtain ⟨q3, q4⟩ := ei_ok (show ei (Nat.ble 20 d2) (some ((d2, Nat.succ j2, pc3, la3, st3) :: (d2 + 1, j, Nat.add pc 3, la, r) :: fs, none, h3)) = some s from q2)
      have e2 := (Option.some.inj q4).symm
      subst e2
      obtain ⟨D2, h2, k2⟩ := k
      exact hob j2 as h _ e1 D2 h2 d2 (be q3) _ k2
    | none =>
      rw [e1] at q2
      cases e3 : mt j2 with
      | none =>
        have e4 : ev_ml (Nat.succ j2) = none := by
          show Option.rec (motive := fun _ => Option Nat) none (fun D => some D.2.2.1) (mt j2) = none
          rw [e3]
        rw [e4] at q2
        exact eg_no q2
      | some D2 =>
        have e4 : ev_ml (Nat.succ j2) = some D2.2.2.1 := by
          show Option.rec (motive := fun _ => Option Nat) none (fun D => some D.2.2.1) (mt j2) = _
          rw [e3]
        rw [e4] at q2
        replace q2 : Option.rec (motive := fun _ => Option es) none (fun l2 => ev_sp l2 (fun l3 => some ((d2, Nat.succ j2, 0, l3, []) :: (d2 + 1, j, Nat.add pc 3, la, r) :: fs, none, h))) (eg_in0 as D2.2.2.1) = some s := q2
        cases e5 : eg_in0 as D2.2.2.1 with
        | none => rw [e5] at q2; exact eg_no q2
        | some l2 =>
          rw [e5] at q2
          replace q2 : ev_sp l2 (fun l3 => some ((d2, Nat.succ j2, 0, l3, []) :: (d2 + 1, j, Nat.add pc 3, la, r) :: fs, none, h)) = some s := q2
          rw [ev_sp_eq] at q2
          have e6 := (Option.some.inj q2).symm
          subst e6
          obtain ⟨D3, h3, k3⟩ := k
          have e7 : D3 = D2 := Option.some.inj (h3.symm.trans e3)
          subst e7
          exact eg_Y.of e3 (eg_in0_sv e5) k3
theorem g_go (hob : ob_ok σ ob) (hD : mx j = some D) {i : Instr} (hM : D.2.2.2.2.1 pc = some (i, 3)) {j2 : Nat} {as r : List Value} (hq : eg_sum r ≤ 8 → eg_cq D.2.2.2.2.2 i (ss σ st) (eh_h σ h) = some (j2, ss σ as, ss σ r)) (e : ev_go ob j2 as r d j pc la fs h = some s) (k : ewS σ K s) : ewS σ K ((d, j, pc, la, st) :: fs, none, h) := by
  obtain ⟨h1, h2⟩ := ev_go_ok hob e k
  refine ⟨D, hD, g_call (pc + 3) hM (hq h1) rfl (h2.imp ?_)⟩
  intro v1 hh k3
  obtain ⟨D3, h3, k4⟩ := k3
  have e7 : D3 = D := Option.some.inj (h3.symm.trans hD)
  subst e7
  exact k4
end EVG
/-! THE QUICK MACHINE IS SOUND, part 5: an instruction after the other; a step; a run -/
section EVH
variable {σ : sg} {K : Option Value → eg_H → Prop} {s : es} {d j pc n : Nat} {la : eg_L} {st : List Value} {fs : List fr} {h : eh} {D : eg_D} {ob : eo}
theorem g_v6q {l : eg_L} {h : eg_H} {t : Option FieldType} {M : eg_M} (pc2 : Nat) (l2 : eg_L) {i : Instr} {st2 : List Value} (hM : M.1 pc = some (i, n)) (hv : eg_v i l st = some (l2, st2)) (hn : n = 6) (hi : eg_isinc i = true) (hpc : pc + n = pc2) (k : eg_K cl kY 3 mt d t M (pc2, l2, st2, h) K) : eg_K cl kY 3 mt d t M (pc, l, st, h) K := by
  subst hpc
  obtain ⟨e1, e2⟩ := eg_v_p hv
  refine eg_K.lift (fun v h2 w => w_step hM e2 ?_ w) k
  simp only [eg_step, hM, e1, hv]
  rw [if_pos (Or.inr ⟨hn, hi⟩)]
theorem ev_pl_eq {ix : Nat} (hD : mx j = some D) : ev_pl j ix = D.2.2.2.2.2 ix := by unfold ev_pl; rw [hD]
theorem ev_ty_eq (hD : mx j = some D) : ev_ty j = D.2.2.2.1 := by unfold ev_ty; rw [hD]
theorem tag2 {g a b : Nat} (h : ev_or (Nat.beq g a) (Nat.beq g b) = true) : g = a ∨ g = b := by
  rcases ev_or_ok h with e | e
  · exact Or.inl (bq e)
  · exact Or.inr (bq e)
theorem ss_len (l : List Value) : (ss σ l).length = l.length := by simp [ss]
theorem ss_drop (l : List Value) (m : Nat) : (ss σ l).drop m = ss σ (l.drop m) := by simp [ss]
theorem ss_take (l : List Value) (m : Nat) : (ss σ l).take m = ss σ (l.take m) := by simp [ss]
theorem eg_ret_i {v : Value} {t : Option FieldType} {M : eg_M} {H : eg_H} (hM : M.1 pc = some (.ireturn, 1)) (e : ev_ai t v = true) : eg_ret t M (pc, slQ σ la, none.toList ++ ss σ [v], H) = some ((some v).map (sv σ)) := by
  unfold eg_ret
  dsimp only
  rw [hM]
  unfold ev_ai at e
  split at e
  · cases v <;> first | rfl | cases e
  · cases v with
    | int x =>
      show (if x = 0 ∨ x = 1 then some (some (Value.int x)) else none) = _
      rw [if_pos]
      · rfl
      · rcases ev_or_ok e with e | e
        · exact Or.inl (u32_inj (bq e))
        · exact Or.inr (u32_inj (bq e))
    | _ => cases e
  · cases e
theorem eg_ret_j {v : Value} {t : Option FieldType} {M : eg_M} {H : eg_H} (hM : M.1 pc = some (.lreturn, 1)) (e : ev_aj t v = true) : eg_ret t M (pc, slQ σ la, none.toList ++ ss σ [v], H) = some ((some v).map (sv σ)) := by
  unfold eg_ret
  dsimp only
  rw [hM]
  unfold ev_aj at e
  split at e
  · cases v with
    | long x => rfl
    | double x =>
      have hv : sv σ (.double x) = .long (σ.2.1 x.toNat) := sv_dt σ e
      have hs : ss σ [Value.double x] = [Value.long (σ.2.1 x.toNat)] := by
        show [sv σ (.double x)] = _
        rw [hv]
      have hr : (some (Value.double x)).map (sv σ) = some (Value.long (σ.2.1 x.toNat)) := by
        show some (sv σ (.double x)) = _
        rw [hv]
      rw [hs, hr]
      rfl
    | _ => cases e
  · cases e
theorem eg_ret_a {v : Value} {t : Option FieldType} {M : eg_M} {H : eg_H} (hM : M.1 pc = some (.areturn, 1)) (e : ev_aa t v = true) : eg_ret t M (pc, slQ σ la, none.toList ++ ss σ [v], H) = some ((some v).map (sv σ)) := by
  unfold eg_ret
  dsimp only
  rw [hM]
  unfold ev_aa at e
  split at e
  · cases v <;> first | rfl | cases e
  · cases v <;> first | rfl | cases e
  · cases e
theorem eg_ret_v {t : Option FieldType} {M : eg_M} {H : eg_H} (hM : M.1 pc = some (.return_, 1)) (e : ev_on t = true) : eg_ret t M (pc, slQ σ la, none.toList ++ ss σ [], H) = some ((none : Option Value).map (sv σ)) := by
  unfold eg_ret
  dsimp only
  rw [hM]
  cases t with
  | none => rfl
  | some x => cases e
theorem ea_aconst_null_ok (hD : mx j = some D) (hM : D.2.2.2.2.1 pc = some (.aconst_null, n)) (q : ea_aconst_null ob d j pc n (pc + n) la st fs h = some s) (k : ewS σ K s) : ewS σ K ((d, j, pc, la, st) :: fs, none, h) := by
  obtain ⟨h1, q1⟩ := ei_ok q
  exact ⟨D, hD, g_p (pc + n) hM rfl (bq h1) rfl (nx_ok hD q1 k)⟩
theorem ea_iconst_ok {m : Int} (hD : mx j = some D) (hM : D.2.2.2.2.1 pc = some (.iconst m, n)) (q : ea_iconst m ob d j pc n (pc + n) la st fs h = some s) (k : ewS σ K s) : ewS σ K ((d, j, pc, la, st) :: fs, none, h) := by
  obtain ⟨h1, q1⟩ := ei_ok q
  rw [ev_f_eq] at q1
  exact ⟨D, hD, g_p (pc + n) hM rfl (bq h1) rfl (nx_ok hD q1 k)⟩
theorem ea_bipush_ok {m : Int} (hD : mx j = some D) (hM : D.2.2.2.2.1 pc = some (.bipush m, n)) (q : ea_bipush m ob d j pc n (pc + n) la st fs h = some s) (k : ewS σ K s) : ewS σ K ((d, j, pc, la, st) :: fs, none, h) := by
  obtain ⟨h1, q1⟩ := ei_ok q
  rw [ev_f_eq] at q1
  exact ⟨D, hD, g_p (pc + n) hM rfl (bq h1) rfl (nx_ok hD q1 k)⟩
theorem ea_sipush_ok {m : Int} (hD : mx j = some D) (hM : D.2.2.2.2.1 pc = some (.sipush m, n)) (q : ea_sipush m ob d j pc n (pc + n) la st fs h = some s) (k : ewS σ K s) : ewS σ K ((d, j, pc, la, st) :: fs, none, h) := by
  obtain ⟨h1, q1⟩ := ei_ok q
  rw [ev_f_eq] at q1
  exact ⟨D, hD, g_p (pc + n) hM rfl (bq h1) rfl (nx_ok hD q1 k)⟩
theorem ea_lconst_ok {m : Fin 2} (hD : mx j = some D) (hM : D.2.2.2.2.1 pc = some (.lconst m, n)) (q : ea_lconst m ob d j pc n (pc + n) la st fs h = some s) (k : ewS σ K s) : ewS σ K ((d, j, pc, la, st) :: fs, none, h) := by
  obtain ⟨h1, q1⟩ := ei_ok q
  rw [ev_g_eq] at q1
  exact ⟨D, hD, g_p (pc + n) hM rfl (bq h1) rfl (nx_ok hD q1 k)⟩
theorem ea_iadd_ok (hD : mx j = some D) (hM : D.2.2.2.2.1 pc = some (.iadd, n)) (q : ea_iadd ob d j pc n (pc + n) la st fs h = some s) (k : ewS σ K s) : ewS σ K ((d, j, pc, la, st) :: fs, none, h) := by
  obtain ⟨h1, q1⟩ := ei_ok q
  obtain ⟨x0, r0, rfl, q2⟩ := pI_ok q1
  obtain ⟨x1, r1, rfl, q3⟩ := pI_ok q2
  rw [ev_f_eq] at q3
  exact ⟨D, hD, g_p (pc + n) hM rfl (bq h1) rfl (nx_ok hD q3 k)⟩
theorem ea_isub_ok (hD : mx j = some D) (hM : D.2.2.2.2.1 pc = some (.isub, n)) (q : ea_isub ob d j pc n (pc + n) la st fs h = some s) (k : ewS σ K s) : ewS σ K ((d, j, pc, la, st) :: fs, none, h) := by
  obtain ⟨h1, q1⟩ := ei_ok q
  obtain ⟨x0, r0, rfl, q2⟩ := pI_ok q1
  obtain ⟨x1, r1, rfl, q3⟩ := pI_ok q2
  rw [ev_f_eq] at q3
  exact ⟨D, hD, g_p (pc + n) hM rfl (bq h1) rfl (nx_ok hD q3 k)⟩
theorem ea_imul_ok (hD : mx j = some D) (hM : D.2.2.2.2.1 pc = some (.imul, n)) (q : ea_imul ob d j pc n (pc + n) la st fs h = some s) (k : ewS σ K s) : ewS σ K ((d, j, pc, la, st) :: fs, none, h) := by
  obtain ⟨h1, q1⟩ := ei_ok q
  obtain ⟨x0, r0, rfl, q2⟩ := pI_ok q1
  obtain ⟨x1, r1, rfl, q3⟩ := pI_ok q2
  rw [ev_f_eq] at q3
  exact ⟨D, hD, g_p (pc + n) hM rfl (bq h1) rfl (nx_ok hD q3 k)⟩
theorem ea_iand_ok (hD : mx j = some D) (hM : D.2.2.2.2.1 pc = some (.iand, n)) (q : ea_iand ob d j pc n (pc + n) la st fs h = some s) (k : ewS σ K s) : ewS σ K ((d, j, pc, la, st) :: fs, none, h) := by
  obtain ⟨h1, q1⟩ := ei_ok q
  obtain ⟨x0, r0, rfl, q2⟩ := pI_ok q1
  obtain ⟨x1, r1, rfl, q3⟩ := pI_ok q2
  rw [ev_f_eq] at q3
  exact ⟨D, hD, g_p (pc + n) hM rfl (bq h1) rfl (nx_ok hD q3 k)⟩
theorem ea_ior_ok (hD : mx j = some D) (hM : D.2.2.2.2.1 pc = some (.ior, n)) (q : ea_ior ob d j pc n (pc + n) la st fs h = some s) (k : ewS σ K s) : ewS σ K ((d, j, pc, la, st) :: fs, none, h) := by
  obtain ⟨h1, q1⟩ := ei_ok q
  obtain ⟨x0, r0, rfl, q2⟩ := pI_ok q1
  obtain ⟨x1, r1, rfl, q3⟩ := pI_ok q2
  rw [ev_f_eq] at q3
  exact ⟨D, hD, g_p (pc + n) hM rfl (bq h1) rfl (nx_ok hD q3 k)⟩
theorem ea_ishl_ok (hD : mx j = some D) (hM : D.2.2.2.2.1 pc = some (.ishl, n)) (q : ea_ishl ob d j pc n (pc + n) la st fs h = some s) (k : ewS σ K s) : ewS σ K ((d, j, pc, la, st) :: fs, none, h) := by
  obtain ⟨h1, q1⟩ := ei_ok q
  obtain ⟨x0, r0, rfl, q2⟩ := pI_ok q1
  obtain ⟨x1, r1, rfl, q3⟩ := pI_ok q2
  rw [ev_f_eq] at q3
  exact ⟨D, hD, g_p (pc + n) hM rfl (bq h1) rfl (nx_ok hD q3 k)⟩
theorem ea_ishr_ok (hD : mx j = some D) (hM : D.2.2.2.2.1 pc = some (.ishr, n)) (q : ea_ishr ob d j pc n (pc + n) la st fs h = some s) (k : ewS σ K s) : ewS σ K ((d, j, pc, la, st) :: fs, none, h) := by
  obtain ⟨h1, q1⟩ := ei_ok q
  obtain ⟨x0, r0, rfl, q2⟩ := pI_ok q1
  obtain ⟨x1, r1, rfl, q3⟩ := pI_ok q2
  rw [ev_f_eq] at q3
  exact ⟨D, hD, g_p (pc + n) hM rfl (bq h1) rfl (nx_ok hD q3 k)⟩
theorem ea_iushr_ok (hD : mx j = some D) (hM : D.2.2.2.2.1 pc = some (.iushr, n)) (q : ea_iushr ob d j pc n (pc + n) la st fs h = some s) (k : ewS σ K s) : ewS σ K ((d, j, pc, la, st) :: fs, none, h) := by
  obtain ⟨h1, q1⟩ := ei_ok q
  obtain ⟨x0, r0, rfl, q2⟩ := pI_ok q1
  obtain ⟨x1, r1, rfl, q3⟩ := pI_ok q2
  rw [ev_f_eq] at q3
  exact ⟨D, hD, g_p (pc + n) hM rfl (bq h1) rfl (nx_ok hD q3 k)⟩
theorem ea_idiv_ok (hD : mx j = some D) (hM : D.2.2.2.2.1 pc = some (.idiv, n)) (q : ea_idiv ob d j pc n (pc + n) la st fs h = some s) (k : ewS σ K s) : ewS σ K ((d, j, pc, la, st) :: fs, none, h) := by
  obtain ⟨h1, q1⟩ := ei_ok q
  obtain ⟨x0, r0, rfl, q2⟩ := pI_ok q1
  obtain ⟨x1, r1, rfl, q3⟩ := pI_ok q2
  obtain ⟨h2, q4⟩ := ei_ok q3
  rw [ev_f_eq] at q4
  have hz : ¬ x0 = 0 := by
    intro e
    rw [e] at h2
    cases h2
  refine ⟨D, hD, g_p (pc + n) hM ?_ (bq h1) rfl (nx_ok hD q4 k)⟩
  exact if_neg hz
theorem ea_irem_ok (hD : mx j = some D) (hM : D.2.2.2.2.1 pc = some (.irem, n)) (q : ea_irem ob d j pc n (pc + n) la st fs h = some s) (k : ewS σ K s) : ewS σ K ((d, j, pc, la, st) :: fs, none, h) := by
  obtain ⟨h1, q1⟩ := ei_ok q
  obtain ⟨x0, r0, rfl, q2⟩ := pI_ok q1
  obtain ⟨x1, r1, rfl, q3⟩ := pI_ok q2
  obtain ⟨h2, q4⟩ := ei_ok q3
  rw [ev_f_eq] at q4
  have hz : ¬ x0 = 0 := by
    intro e
    rw [e] at h2
    cases h2
  refine ⟨D, hD, g_p (pc + n) hM ?_ (bq h1) rfl (nx_ok hD q4 k)⟩
  exact if_neg hz
theorem ea_ladd_ok (hD : mx j = some D) (hM : D.2.2.2.2.1 pc = some (.ladd, n)) (q : ea_ladd ob d j pc n (pc + n) la st fs h = some s) (k : ewS σ K s) : ewS σ K ((d, j, pc, la, st) :: fs, none, h) := by
  obtain ⟨h1, q1⟩ := ei_ok q
  obtain ⟨x0, r0, rfl, q2⟩ := pJ_ok q1
  obtain ⟨x1, r1, rfl, q3⟩ := pJ_ok q2
  rw [ev_g_eq] at q3
  exact ⟨D, hD, g_p (pc + n) hM rfl (bq h1) rfl (nx_ok hD q3 k)⟩
theorem ea_lsub_ok (hD : mx j = some D) (hM : D.2.2.2.2.1 pc = some (.lsub, n)) (q : ea_lsub ob d j pc n (pc + n) la st fs h = some s) (k : ewS σ K s) : ewS σ K ((d, j, pc, la, st) :: fs, none, h) := by
  obtain ⟨h1, q1⟩ := ei_ok q
  obtain ⟨x0, r0, rfl, q2⟩ := pJ_ok q1
  obtain ⟨x1, r1, rfl, q3⟩ := pJ_ok q2
  rw [ev_g_eq] at q3
  exact ⟨D, hD, g_p (pc + n) hM rfl (bq h1) rfl (nx_ok hD q3 k)⟩
theorem ea_lmul_ok (hD : mx j = some D) (hM : D.2.2.2.2.1 pc = some (.lmul, n)) (q : ea_lmul ob d j pc n (pc + n) la st fs h = some s) (k : ewS σ K s) : ewS σ K ((d, j, pc, la, st) :: fs, none, h) := by
  obtain ⟨h1, q1⟩ := ei_ok q
  obtain ⟨x0, r0, rfl, q2⟩ := pJ_ok q1
  obtain ⟨x1, r1, rfl, q3⟩ := pJ_ok q2
  rw [ev_g_eq] at q3
  exact ⟨D, hD, g_p (pc + n) hM rfl (bq h1) rfl (nx_ok hD q3 k)⟩
theorem ea_land_ok (hD : mx j = some D) (hM : D.2.2.2.2.1 pc = some (.land, n)) (q : ea_land ob d j pc n (pc + n) la st fs h = some s) (k : ewS σ K s) : ewS σ K ((d, j, pc, la, st) :: fs, none, h) := by
  obtain ⟨h1, q1⟩ := ei_ok q
  obtain ⟨x0, r0, rfl, q2⟩ := pJ_ok q1
  obtain ⟨x1, r1, rfl, q3⟩ := pJ_ok q2
  rw [ev_g_eq] at q3
  exact ⟨D, hD, g_p (pc + n) hM rfl (bq h1) rfl (nx_ok hD q3 k)⟩
theorem ea_lor_ok (hD : mx j = some D) (hM : D.2.2.2.2.1 pc = some (.lor, n)) (q : ea_lor ob d j pc n (pc + n) la st fs h = some s) (k : ewS σ K s) : ewS σ K ((d, j, pc, la, st) :: fs, none, h) := by
  obtain ⟨h1, q1⟩ := ei_ok q
  obtain ⟨x0, r0, rfl, q2⟩ := pJ_ok q1
  obtain ⟨x1, r1, rfl, q3⟩ := pJ_ok q2
  rw [ev_g_eq] at q3
  exact ⟨D, hD, g_p (pc + n) hM rfl (bq h1) rfl (nx_ok hD q3 k)⟩
theorem ea_lcmp_ok (hD : mx j = some D) (hM : D.2.2.2.2.1 pc = some (.lcmp, n)) (q : ea_lcmp ob d j pc n (pc + n) la st fs h = some s) (k : ewS σ K s) : ewS σ K ((d, j, pc, la, st) :: fs, none, h) := by
  obtain ⟨h1, q1⟩ := ei_ok q
  obtain ⟨x0, r0, rfl, q2⟩ := pJ_ok q1
  obtain ⟨x1, r1, rfl, q3⟩ := pJ_ok q2
  rw [ev_f_eq] at q3
  exact ⟨D, hD, g_p (pc + n) hM rfl (bq h1) rfl (nx_ok hD q3 k)⟩
theorem ea_ldiv_ok (hD : mx j = some D) (hM : D.2.2.2.2.1 pc = some (.ldiv, n)) (q : ea_ldiv ob d j pc n (pc + n) la st fs h = some s) (k : ewS σ K s) : ewS σ K ((d, j, pc, la, st) :: fs, none, h) := by
  obtain ⟨h1, q1⟩ := ei_ok q
  obtain ⟨x0, r0, rfl, q2⟩ := pJ_ok q1
  obtain ⟨x1, r1, rfl, q3⟩ := pJ_ok q2
  obtain ⟨h2, q4⟩ := ei_ok q3
  rw [ev_g_eq] at q4
  have hz : ¬ x0 = 0 := by
    intro e
    rw [e] at h2
    cases h2
  refine ⟨D, hD, g_p (pc + n) hM ?_ (bq h1) rfl (nx_ok hD q4 k)⟩
  exact if_neg hz
theorem ea_lrem_ok (hD : mx j = some D) (hM : D.2.2.2.2.1 pc = some (.lrem, n)) (q : ea_lrem ob d j pc n (pc + n) la st fs h = some s) (k : ewS σ K s) : ewS σ K ((d, j, pc, la, st) :: fs, none, h) := by
  obtain ⟨h1, q1⟩ := ei_ok q
  obtain ⟨x0, r0, rfl, q2⟩ := pJ_ok q1
  obtain ⟨x1, r1, rfl, q3⟩ := pJ_ok q2
  obtain ⟨h2, q4⟩ := ei_ok q3
  rw [ev_g_eq] at q4
  have hz : ¬ x0 = 0 := by
    intro e
    rw [e] at h2
    cases h2
  refine ⟨D, hD, g_p (pc + n) hM ?_ (bq h1) rfl (nx_ok hD q4 k)⟩
  exact if_neg hz
theorem ea_lshl_ok (hD : mx j = some D) (hM : D.2.2.2.2.1 pc = some (.lshl, n)) (q : ea_lshl ob d j pc n (pc + n) la st fs h = some s) (k : ewS σ K s) : ewS σ K ((d, j, pc, la, st) :: fs, none, h) := by
  obtain ⟨h1, q1⟩ := ei_ok q
  obtain ⟨x0, r0, rfl, q2⟩ := pI_ok q1
  obtain ⟨x1, r1, rfl, q3⟩ := pJ_ok q2
  rw [ev_g_eq] at q3
  exact ⟨D, hD, g_p (pc + n) hM rfl (bq h1) rfl (nx_ok hD q3 k)⟩
theorem ea_lshr_ok (hD : mx j = some D) (hM : D.2.2.2.2.1 pc = some (.lshr, n)) (q : ea_lshr ob d j pc n (pc + n) la st fs h = some s) (k : ewS σ K s) : ewS σ K ((d, j, pc, la, st) :: fs, none, h) := by
  obtain ⟨h1, q1⟩ := ei_ok q
  obtain ⟨x0, r0, rfl, q2⟩ := pI_ok q1
  obtain ⟨x1, r1, rfl, q3⟩ := pJ_ok q2
  rw [ev_g_eq] at q3
  exact ⟨D, hD, g_p (pc + n) hM rfl (bq h1) rfl (nx_ok hD q3 k)⟩
theorem ea_lushr_ok (hD : mx j = some D) (hM : D.2.2.2.2.1 pc = some (.lushr, n)) (q : ea_lushr ob d j pc n (pc + n) la st fs h = some s) (k : ewS σ K s) : ewS σ K ((d, j, pc, la, st) :: fs, none, h) := by
  obtain ⟨h1, q1⟩ := ei_ok q
  obtain ⟨x0, r0, rfl, q2⟩ := pI_ok q1
  obtain ⟨x1, r1, rfl, q3⟩ := pJ_ok q2
  rw [ev_g_eq] at q3
  exact ⟨D, hD, g_p (pc + n) hM rfl (bq h1) rfl (nx_ok hD q3 k)⟩
theorem ea_ineg_ok (hD : mx j = some D) (hM : D.2.2.2.2.1 pc = some (.ineg, n)) (q : ea_ineg ob d j pc n (pc + n) la st fs h = some s) (k : ewS σ K s) : ewS σ K ((d, j, pc, la, st) :: fs, none, h) := by
  obtain ⟨h1, q1⟩ := ei_ok q
  obtain ⟨x0, r0, rfl, q2⟩ := pI_ok q1
  rw [ev_f_eq] at q2
  exact ⟨D, hD, g_p (pc + n) hM rfl (bq h1) rfl (nx_ok hD q2 k)⟩
theorem ea_i2b_ok (hD : mx j = some D) (hM : D.2.2.2.2.1 pc = some (.i2b, n)) (q : ea_i2b ob d j pc n (pc + n) la st fs h = some s) (k : ewS σ K s) : ewS σ K ((d, j, pc, la, st) :: fs, none, h) := by
  obtain ⟨h1, q1⟩ := ei_ok q
  obtain ⟨x0, r0, rfl, q2⟩ := pI_ok q1
  rw [ev_f_eq] at q2
  exact ⟨D, hD, g_p (pc + n) hM rfl (bq h1) rfl (nx_ok hD q2 k)⟩
theorem ea_i2s_ok (hD : mx j = some D) (hM : D.2.2.2.2.1 pc = some (.i2s, n)) (q : ea_i2s ob d j pc n (pc + n) la st fs h = some s) (k : ewS σ K s) : ewS σ K ((d, j, pc, la, st) :: fs, none, h) := by
  obtain ⟨h1, q1⟩ := ei_ok q
  obtain ⟨x0, r0, rfl, q2⟩ := pI_ok q1
  rw [ev_f_eq] at q2
  exact ⟨D, hD, g_p (pc + n) hM rfl (bq h1) rfl (nx_ok hD q2 k)⟩
theorem ea_i2l_ok (hD : mx j = some D) (hM : D.2.2.2.2.1 pc = some (.i2l, n)) (q : ea_i2l ob d j pc n (pc + n) la st fs h = some s) (k : ewS σ K s) : ewS σ K ((d, j, pc, la, st) :: fs, none, h) := by
  obtain ⟨h1, q1⟩ := ei_ok q
  obtain ⟨x0, r0, rfl, q2⟩ := pI_ok q1
  rw [ev_g_eq] at q2
  exact ⟨D, hD, g_p (pc + n) hM rfl (bq h1) rfl (nx_ok hD q2 k)⟩
theorem ea_l2i_ok (hD : mx j = some D) (hM : D.2.2.2.2.1 pc = some (.l2i, n)) (q : ea_l2i ob d j pc n (pc + n) la st fs h = some s) (k : ewS σ K s) : ewS σ K ((d, j, pc, la, st) :: fs, none, h) := by
  obtain ⟨h1, q1⟩ := ei_ok q
  obtain ⟨x0, r0, rfl, q2⟩ := pJ_ok q1
  rw [ev_f_eq] at q2
  exact ⟨D, hD, g_p (pc + n) hM rfl (bq h1) rfl (nx_ok hD q2 k)⟩
theorem ea_dup_ok (hD : mx j = some D) (hM : D.2.2.2.2.1 pc = some (.dup, n)) (q : ea_dup ob d j pc n (pc + n) la st fs h = some s) (k : ewS σ K s) : ewS σ K ((d, j, pc, la, st) :: fs, none, h) := by
  obtain ⟨h1, q1⟩ := ei_ok q
  obtain ⟨st2, e, q2⟩ := ev_d1_ok (σ := σ) q1
  exact ⟨D, hD, g_p (pc + n) hM e (bq h1) rfl (nx_ok hD q2 k)⟩
theorem ea_dup2_ok (hD : mx j = some D) (hM : D.2.2.2.2.1 pc = some (.dup2, n)) (q : ea_dup2 ob d j pc n (pc + n) la st fs h = some s) (k : ewS σ K s) : ewS σ K ((d, j, pc, la, st) :: fs, none, h) := by
  obtain ⟨h1, q1⟩ := ei_ok q
  obtain ⟨st2, e, q2⟩ := ev_d2_ok (σ := σ) q1
  exact ⟨D, hD, g_p (pc + n) hM e (bq h1) rfl (nx_ok hD q2 k)⟩
theorem ea_pop_ok (hD : mx j = some D) (hM : D.2.2.2.2.1 pc = some (.pop, n)) (q : ea_pop ob d j pc n (pc + n) la st fs h = some s) (k : ewS σ K s) : ewS σ K ((d, j, pc, la, st) :: fs, none, h) := by
  obtain ⟨h1, q1⟩ := ei_ok q
  obtain ⟨st2, e, q2⟩ := ev_p1_ok (σ := σ) q1
  exact ⟨D, hD, g_p (pc + n) hM e (bq h1) rfl (nx_ok hD q2 k)⟩
theorem ea_iload_ok {k : Nat} (hD : mx j = some D) (hM : D.2.2.2.2.1 pc = some (.iload k, n)) (q : ea_iload k ob d j pc n (pc + n) la st fs h = some s) (k : ewS σ K s) : ewS σ K ((d, j, pc, la, st) :: fs, none, h) := by
  obtain ⟨h1, q1⟩ := ei_ok q
  obtain ⟨v, e1, e2, q2⟩ := ev_ld_ok q1
  exact ⟨D, hD, g_v (pc + n) (slQ σ la) hM (ld_eg e1 (ev_iI_sv σ e2)) (bq h1) rfl (nx_ok hD q2 k)⟩
theorem ea_iload_n_ok {k : Fin 4} (hD : mx j = some D) (hM : D.2.2.2.2.1 pc = some (.iload_n k, n)) (q : ea_iload_n k ob d j pc n (pc + n) la st fs h = some s) (k : ewS σ K s) : ewS σ K ((d, j, pc, la, st) :: fs, none, h) := by
  obtain ⟨h1, q1⟩ := ei_ok q
  obtain ⟨v, e1, e2, q2⟩ := ev_ld_ok q1
  exact ⟨D, hD, g_v (pc + n) (slQ σ la) hM (ld_eg e1 (ev_iI_sv σ e2)) (bq h1) rfl (nx_ok hD q2 k)⟩
theorem ea_istore_ok {k : Nat} (hD : mx j = some D) (hM : D.2.2.2.2.1 pc = some (.istore k, n)) (q : ea_istore k ob d j pc n (pc + n) la st fs h = some s) (k : ewS σ K s) : ewS σ K ((d, j, pc, la, st) :: fs, none, h) := by
  obtain ⟨h1, q1⟩ := ei_ok q
  obtain ⟨l2, st2, e, q2⟩ := ev_s1_ok (σ := σ) (tt := eg_isI) (fun v e => ⟨ev_iI_sv σ e, by cases v <;> first | rfl | cases e⟩) q1
  exact ⟨D, hD, g_v (pc + n) (slQ σ l2) hM e (bq h1) rfl (nx_ok hD q2 k)⟩
theorem ea_istore_n_ok {k : Fin 4} (hD : mx j = some D) (hM : D.2.2.2.2.1 pc = some (.istore_n k, n)) (q : ea_istore_n k ob d j pc n (pc + n) la st fs h = some s) (k : ewS σ K s) : ewS σ K ((d, j, pc, la, st) :: fs, none, h) := by
  obtain ⟨h1, q1⟩ := ei_ok q
  obtain ⟨l2, st2, e, q2⟩ := ev_s1_ok (σ := σ) (tt := eg_isI) (fun v e => ⟨ev_iI_sv σ e, by cases v <;> first | rfl | cases e⟩) q1
  exact ⟨D, hD, g_v (pc + n) (slQ σ l2) hM e (bq h1) rfl (nx_ok hD q2 k)⟩
theorem ea_lload_ok {k : Nat} (hD : mx j = some D) (hM : D.2.2.2.2.1 pc = some (.lload k, n)) (q : ea_lload k ob d j pc n (pc + n) la st fs h = some s) (k : ewS σ K s) : ewS σ K ((d, j, pc, la, st) :: fs, none, h) := by
  obtain ⟨h1, q1⟩ := ei_ok q
  obtain ⟨v, e1, e2, q2⟩ := ev_ld_ok q1
  exact ⟨D, hD, g_v (pc + n) (slQ σ la) hM (ld_eg e1 (ev_iJ_sv σ e2)) (bq h1) rfl (nx_ok hD q2 k)⟩
theorem ea_lload_n_ok {k : Fin 4} (hD : mx j = some D) (hM : D.2.2.2.2.1 pc = some (.lload_n k, n)) (q : ea_lload_n k ob d j pc n (pc + n) la st fs h = some s) (k : ewS σ K s) : ewS σ K ((d, j, pc, la, st) :: fs, none, h) := by
  obtain ⟨h1, q1⟩ := ei_ok q
  obtain ⟨v, e1, e2, q2⟩ := ev_ld_ok q1
  exact ⟨D, hD, g_v (pc + n) (slQ σ la) hM (ld_eg e1 (ev_iJ_sv σ e2)) (bq h1) rfl (nx_ok hD q2 k)⟩
theorem ea_lstore_ok {k : Nat} (hD : mx j = some D) (hM : D.2.2.2.2.1 pc = some (.lstore k, n)) (q : ea_lstore k ob d j pc n (pc + n) la st fs h = some s) (k : ewS σ K s) : ewS σ K ((d, j, pc, la, st) :: fs, none, h) := by
  obtain ⟨h1, q1⟩ := ei_ok q
  obtain ⟨l2, st2, e, q2⟩ := ev_s2_ok (σ := σ) q1
  exact ⟨D, hD, g_v (pc + n) (slQ σ l2) hM e (bq h1) rfl (nx_ok hD q2 k)⟩
theorem ea_lstore_n_ok {k : Fin 4} (hD : mx j = some D) (hM : D.2.2.2.2.1 pc = some (.lstore_n k, n)) (q : ea_lstore_n k ob d j pc n (pc + n) la st fs h = some s) (k : ewS σ K s) : ewS σ K ((d, j, pc, la, st) :: fs, none, h) := by
  obtain ⟨h1, q1⟩ := ei_ok q
  obtain ⟨l2, st2, e, q2⟩ := ev_s2_ok (σ := σ) q1
  exact ⟨D, hD, g_v (pc + n) (slQ σ l2) hM e (bq h1) rfl (nx_ok hD q2 k)⟩
theorem ea_aload_ok {k : Nat} (hD : mx j = some D) (hM : D.2.2.2.2.1 pc = some (.aload k, n)) (q : ea_aload k ob d j pc n (pc + n) la st fs h = some s) (k : ewS σ K s) : ewS σ K ((d, j, pc, la, st) :: fs, none, h) := by
  obtain ⟨h1, q1⟩ := ei_ok q
  obtain ⟨v, e1, e2, q2⟩ := ev_ld_ok q1
  exact ⟨D, hD, g_v (pc + n) (slQ σ la) hM (ld_eg e1 (ev_iA_sv σ e2)) (bq h1) rfl (nx_ok hD q2 k)⟩
theorem ea_aload_n_ok {k : Fin 4} (hD : mx j = some D) (hM : D.2.2.2.2.1 pc = some (.aload_n k, n)) (q : ea_aload_n k ob d j pc n (pc + n) la st fs h = some s) (k : ewS σ K s) : ewS σ K ((d, j, pc, la, st) :: fs, none, h) := by
  obtain ⟨h1, q1⟩ := ei_ok q
  obtain ⟨v, e1, e2, q2⟩ := ev_ld_ok q1
  exact ⟨D, hD, g_v (pc + n) (slQ σ la) hM (ld_eg e1 (ev_iA_sv σ e2)) (bq h1) rfl (nx_ok hD q2 k)⟩
theorem ea_astore_ok {k : Nat} (hD : mx j = some D) (hM : D.2.2.2.2.1 pc = some (.astore k, n)) (q : ea_astore k ob d j pc n (pc + n) la st fs h = some s) (k : ewS σ K s) : ewS σ K ((d, j, pc, la, st) :: fs, none, h) := by
  obtain ⟨h1, q1⟩ := ei_ok q
  obtain ⟨l2, st2, e, q2⟩ := ev_s1_ok (σ := σ) (tt := eg_isA) (fun v e => ⟨ev_iA_sv σ e, by cases v <;> first | rfl | cases e⟩) q1
  exact ⟨D, hD, g_v (pc + n) (slQ σ l2) hM e (bq h1) rfl (nx_ok hD q2 k)⟩
theorem ea_astore_n_ok {k : Fin 4} (hD : mx j = some D) (hM : D.2.2.2.2.1 pc = some (.astore_n k, n)) (q : ea_astore_n k ob d j pc n (pc + n) la st fs h = some s) (k : ewS σ K s) : ewS σ K ((d, j, pc, la, st) :: fs, none, h) := by
  obtain ⟨h1, q1⟩ := ei_ok q
  obtain ⟨l2, st2, e, q2⟩ := ev_s1_ok (σ := σ) (tt := eg_isA) (fun v e => ⟨ev_iA_sv σ e, by cases v <;> first | rfl | cases e⟩) q1
  exact ⟨D, hD, g_v (pc + n) (slQ σ l2) hM e (bq h1) rfl (nx_ok hD q2 k)⟩
theorem ea_iinc_ok {k : Nat} {m : Int} (hD : mx j = some D) (hM : D.2.2.2.2.1 pc = some (.iinc k m, n)) (q : ea_iinc k m ob d j pc n (pc + n) la st fs h = some s) (k : ewS σ K s) : ewS σ K ((d, j, pc, la, st) :: fs, none, h) := by
  obtain ⟨h1, q1⟩ := ei_ok q
  obtain ⟨l2, e, q2⟩ := ev_inc_ok (σ := σ) (st := st) q1
  rcases ev_or_ok h1 with h1 | h1
  · exact ⟨D, hD, g_v (pc + n) (slQ σ l2) hM e (bq h1) rfl (nx_ok hD q2 k)⟩
  · exact ⟨D, hD, g_v6q (pc + n) (slQ σ l2) hM e (bq h1) rfl rfl (nx_ok hD q2 k)⟩
theorem ea_goto_ok {off : Int} (hD : mx j = some D) (hM : D.2.2.2.2.1 pc = some (.goto off, n)) (q : ea_goto off ob d j pc n (pc + n) la st fs h = some s) (k : ewS σ K s) : ewS σ K ((d, j, pc, la, st) :: fs, none, h) := by
  obtain ⟨h1, q1⟩ := ei_ok q
  obtain ⟨q2, e1, e2, q3⟩ := ev_j_ok q1
  have hn := bq h1
  subst hn
  refine ⟨D, hD, g_b q2 hM ?_ rfl (nx_ok hD q3 k)⟩
  show (if 0 ≤ (pc : Int) + off then some (((pc : Int) + off).toNat, ss σ st) else none) = _
  rw [if_pos e1, e2]
theorem ea_ifCond_ok {c : ClassFile.Cond} {off : Int} (hD : mx j = some D) (hM : D.2.2.2.2.1 pc = some (.ifCond c off, n)) (q : ea_ifCond c off ob d j pc n (pc + n) la st fs h = some s) (k : ewS σ K s) : ewS σ K ((d, j, pc, la, st) :: fs, none, h) := by
  obtain ⟨h1, q1⟩ := ei_ok q
  have hn := bq h1
  subst hn
  obtain ⟨x, r, rfl, q2⟩ := pI_ok q1
  obtain ⟨q3, e, q4⟩ := ev_if_ok (F := fun q => nx d j fs h la q r) q2
  refine ⟨D, hD, g_b q3 hM ?_ rfl (nx_ok hD q4 k)⟩
  have e2 : ev_c c (u32 x) (u32 0) = eg_cnd c x 0 := ev_c_eq c x 0
  have e3 : eg_if pc (ev_c c (u32 x) (u32 0)) off (ss σ r) = some (q3, ss σ r) := e (ss σ r)
  rw [e2] at e3
  exact e3
theorem ea_if_icmp_ok {c : ClassFile.Cond} {off : Int} (hD : mx j = some D) (hM : D.2.2.2.2.1 pc = some (.if_icmp c off, n)) (q : ea_if_icmp c off ob d j pc n (pc + n) la st fs h = some s) (k : ewS σ K s) : ewS σ K ((d, j, pc, la, st) :: fs, none, h) := by
  obtain ⟨h1, q1⟩ := ei_ok q
  have hn := bq h1
  subst hn
  obtain ⟨y, r0, rfl, q2⟩ := pI_ok q1
  obtain ⟨x, r, rfl, q2⟩ := pI_ok q2
  obtain ⟨q3, e, q4⟩ := ev_if_ok (F := fun q => nx d j fs h la q r) q2
  refine ⟨D, hD, g_b q3 hM ?_ rfl (nx_ok hD q4 k)⟩
  have e3 := e (ss σ r)
  rw [ev_c_eq] at e3
  exact e3
theorem ea_if_acmp_ok {c : ClassFile.ACond} {off : Int} (hD : mx j = some D) (hM : D.2.2.2.2.1 pc = some (.if_acmp c off, n)) (q : ea_if_acmp c off ob d j pc n (pc + n) la st fs h = some s) (k : ewS σ K s) : ewS σ K ((d, j, pc, la, st) :: fs, none, h) := by
  obtain ⟨h1, q1⟩ := ei_ok q
  have hn := bq h1
  subst hn
  obtain ⟨w, v, r, a, b, rfl, e1, e2, q2⟩ := ev_ac_ok (σ := σ) q1
  obtain ⟨q3, e, q4⟩ := ev_if_ok (F := fun q => nx d j fs h la q r) q2
  refine ⟨D, hD, g_b q3 hM ?_ rfl (nx_ok hD q4 k)⟩
  show (match eg_an 3 (sv σ v), eg_an 3 (sv σ w) with
    | some a, some b => eg_if pc (eg_acnd c a b) off (ss σ r)
    | _, _ => none) = _
  rw [e1, e2]
  exact e (ss σ r)
theorem ea_ifnull_ok {off : Int} (hD : mx j = some D) (hM : D.2.2.2.2.1 pc = some (.ifnull off, n)) (q : ea_ifnull off ob d j pc n (pc + n) la st fs h = some s) (k : ewS σ K s) : ewS σ K ((d, j, pc, la, st) :: fs, none, h) := by
  obtain ⟨h1, q1⟩ := ei_ok q
  have hn := bq h1
  subst hn
  obtain ⟨v, r, rfl, q2⟩ := pV_ok q1
  cases v with
    | null =>
      obtain ⟨q3, e1, e2, q4⟩ := ev_j_ok (show ev_j pc off (fun q2 => nx d j fs h la q2 r) = some s from q2)
      refine ⟨D, hD, g_b q3 hM ?_ rfl (nx_ok hD q4 k)⟩
      show (if 0 ≤ (pc : Int) + off then some (((pc : Int) + off).toNat, ss σ r) else none) = _
      rw [if_pos e1, e2]
    | ref a =>
      exact ⟨D, hD, g_b (pc + 3) hM rfl rfl (nx_ok hD q2 k)⟩
    | _ => exact eg_no q2
theorem ea_ifnonnull_ok {off : Int} (hD : mx j = some D) (hM : D.2.2.2.2.1 pc = some (.ifnonnull off, n)) (q : ea_ifnonnull off ob d j pc n (pc + n) la st fs h = some s) (k : ewS σ K s) : ewS σ K ((d, j, pc, la, st) :: fs, none, h) := by
  obtain ⟨h1, q1⟩ := ei_ok q
  have hn := bq h1
  subst hn
  obtain ⟨v, r, rfl, q2⟩ := pV_ok q1
  cases v with
    | null =>
      exact ⟨D, hD, g_b (pc + 3) hM rfl rfl (nx_ok hD q2 k)⟩
    | ref a =>
      obtain ⟨q3, e1, e2, q4⟩ := ev_j_ok (show ev_j pc off (fun q2 => nx d j fs h la q2 r) = some s from q2)
      refine ⟨D, hD, g_b q3 hM ?_ rfl (nx_ok hD q4 k)⟩
      show (if 0 ≤ (pc : Int) + off then some (((pc : Int) + off).toNat, ss σ r) else none) = _
      rw [if_pos e1, e2]
    | _ => exact eg_no q2
theorem ea_tableswitch_ok {a b c : Int} {e : Array Int} (hD : mx j = some D) (hM : D.2.2.2.2.1 pc = some (.tableswitch a b c e, n)) (q : ea_tableswitch a b c e ob d j pc n (pc + n) la st fs h = some s) (k : ewS σ K s) : ewS σ K ((d, j, pc, la, st) :: fs, none, h) := by
  obtain ⟨x, r, rfl, q1⟩ := pI_ok q
  obtain ⟨q2, l2, e, q3⟩ := ev_sw_ok q1
  exact ⟨D, hD, g_b q2 hM (eg_ts_any e (ss σ r)) rfl (nx_ok hD q3 k)⟩
theorem ea_lookupswitch_ok {a : Int} {b : Array (Int × Int)} (hD : mx j = some D) (hM : D.2.2.2.2.1 pc = some (.lookupswitch a b, n)) (q : ea_lookupswitch a b ob d j pc n (pc + n) la st fs h = some s) (k : ewS σ K s) : ewS σ K ((d, j, pc, la, st) :: fs, none, h) := by
  obtain ⟨x, r, rfl, q1⟩ := pI_ok q
  obtain ⟨q2, l2, e, q3⟩ := ev_sw_ok q1
  exact ⟨D, hD, g_b q2 hM (eg_lsw_any e (ss σ r)) rfl (nx_ok hD q3 k)⟩
theorem ea_iaload_ok (hD : mx j = some D) (hM : D.2.2.2.2.1 pc = some (.iaload, n)) (q : ea_iaload ob d j pc n (pc + n) la st fs h = some s) (k : ewS σ K s) : ewS σ K ((d, j, pc, la, st) :: fs, none, h) := by
  obtain ⟨h1, q1⟩ := ei_ok q
  obtain ⟨st2, e, q2⟩ := ev_al_ok (σ := σ) q1
  exact ⟨D, hD, g_h (pc + n) hM e (bq h1) rfl (nx_ok hD q2 k)⟩
theorem ea_laload_ok (hD : mx j = some D) (hM : D.2.2.2.2.1 pc = some (.laload, n)) (q : ea_laload ob d j pc n (pc + n) la st fs h = some s) (k : ewS σ K s) : ewS σ K ((d, j, pc, la, st) :: fs, none, h) := by
  obtain ⟨h1, q1⟩ := ei_ok q
  obtain ⟨st2, e, q2⟩ := ev_al_ok (σ := σ) q1
  exact ⟨D, hD, g_h (pc + n) hM e (bq h1) rfl (nx_ok hD q2 k)⟩
theorem ea_baload_ok (hD : mx j = some D) (hM : D.2.2.2.2.1 pc = some (.baload, n)) (q : ea_baload ob d j pc n (pc + n) la st fs h = some s) (k : ewS σ K s) : ewS σ K ((d, j, pc, la, st) :: fs, none, h) := by
  obtain ⟨h1, q1⟩ := ei_ok q
  obtain ⟨st2, e, q2⟩ := ev_al_ok (σ := σ) q1
  exact ⟨D, hD, g_h (pc + n) hM e (bq h1) rfl (nx_ok hD q2 k)⟩
theorem ea_aaload_ok (hD : mx j = some D) (hM : D.2.2.2.2.1 pc = some (.aaload, n)) (q : ea_aaload ob d j pc n (pc + n) la st fs h = some s) (k : ewS σ K s) : ewS σ K ((d, j, pc, la, st) :: fs, none, h) := by
  obtain ⟨h1, q1⟩ := ei_ok q
  obtain ⟨st2, e, q2⟩ := ev_al_ok (σ := σ) q1
  exact ⟨D, hD, g_h (pc + n) hM e (bq h1) rfl (nx_ok hD q2 k)⟩
theorem ea_iastore_ok (hσ : ∀ j, j < 256 → (σ.1 j).toInt8.toInt32 = σ.1 j) (hD : mx j = some D) (hM : D.2.2.2.2.1 pc = some (.iastore, n)) (q : ea_iastore ob d j pc n (pc + n) la st fs h = some s) (k : ewS σ K s) : ewS σ K ((d, j, pc, la, st) :: fs, none, h) := by
  obtain ⟨h1, q1⟩ := ei_ok q
  obtain ⟨st2, h2, e, q2⟩ := ev_as_ok hσ (ww := eg_isI) (fun v e => ev_iI_sv σ e) q1
  exact ⟨D, hD, g_h (pc + n) hM e (bq h1) rfl (nx_ok hD q2 k)⟩
theorem ea_lastore_ok (hσ : ∀ j, j < 256 → (σ.1 j).toInt8.toInt32 = σ.1 j) (hD : mx j = some D) (hM : D.2.2.2.2.1 pc = some (.lastore, n)) (q : ea_lastore ob d j pc n (pc + n) la st fs h = some s) (k : ewS σ K s) : ewS σ K ((d, j, pc, la, st) :: fs, none, h) := by
  obtain ⟨h1, q1⟩ := ei_ok q
  obtain ⟨st2, h2, e, q2⟩ := ev_as_ok hσ (ww := eg_isJ) (fun v e => ev_iJ_sv σ e) q1
  exact ⟨D, hD, g_h (pc + n) hM e (bq h1) rfl (nx_ok hD q2 k)⟩
theorem ea_bastore_ok (hσ : ∀ j, j < 256 → (σ.1 j).toInt8.toInt32 = σ.1 j) (hD : mx j = some D) (hM : D.2.2.2.2.1 pc = some (.bastore, n)) (q : ea_bastore ob d j pc n (pc + n) la st fs h = some s) (k : ewS σ K s) : ewS σ K ((d, j, pc, la, st) :: fs, none, h) := by
  obtain ⟨h1, q1⟩ := ei_ok q
  obtain ⟨st2, h2, e, q2⟩ := ev_as_ok hσ (ww := eg_isI) (fun v e => ev_iI_sv σ e) q1
  exact ⟨D, hD, g_h (pc + n) hM e (bq h1) rfl (nx_ok hD q2 k)⟩
theorem ea_aastore_ok (hD : mx j = some D) (hM : D.2.2.2.2.1 pc = some (.aastore, n)) (q : ea_aastore ob d j pc n (pc + n) la st fs h = some s) (k : ewS σ K s) : ewS σ K ((d, j, pc, la, st) :: fs, none, h) := by
  obtain ⟨h1, q1⟩ := ei_ok q
  obtain ⟨st2, h2, e, q2⟩ := ev_aq_ok (σ := σ) q1
  exact ⟨D, hD, g_h (pc + n) hM (e) (bq h1) rfl (nx_ok hD q2 k)⟩
theorem ea_arraylength_ok (hD : mx j = some D) (hM : D.2.2.2.2.1 pc = some (.arraylength, n)) (q : ea_arraylength ob d j pc n (pc + n) la st fs h = some s) (k : ewS σ K s) : ewS σ K ((d, j, pc, la, st) :: fs, none, h) := by
  obtain ⟨h1, q1⟩ := ei_ok q
  obtain ⟨st2, e, q2⟩ := ev_len_ok (σ := σ) q1
  exact ⟨D, hD, g_h (pc + n) hM e (bq h1) rfl (nx_ok hD q2 k)⟩
theorem ea_getfield_ok {ix : Nat} (hD : mx j = some D) (hM : D.2.2.2.2.1 pc = some (.getfield ix, n)) (q : ea_getfield ix ob d j pc n (pc + n) la st fs h = some s) (k : ewS σ K s) : ewS σ K ((d, j, pc, la, st) :: fs, none, h) := by
  obtain ⟨h1, q1⟩ := ei_ok q
  obtain ⟨st2, e, q2⟩ := ev_gf_ok (σ := σ) q1
  exact ⟨D, hD, g_h (pc + n) hM (by rw [ev_pl_eq hD] at e; exact e) (bq h1) rfl (nx_ok hD q2 k)⟩
theorem ea_putfield_ok {ix : Nat} (hD : mx j = some D) (hM : D.2.2.2.2.1 pc = some (.putfield ix, n)) (q : ea_putfield ix ob d j pc n (pc + n) la st fs h = some s) (k : ewS σ K s) : ewS σ K ((d, j, pc, la, st) :: fs, none, h) := by
  obtain ⟨h1, q1⟩ := ei_ok q
  obtain ⟨st2, h2, e, q2⟩ := ev_pf_ok (σ := σ) q1
  exact ⟨D, hD, g_h (pc + n) hM (by rw [ev_pl_eq hD] at e; exact e) (bq h1) rfl (nx_ok hD q2 k)⟩
theorem ea_getstatic_ok {ix : Nat} (hD : mx j = some D) (hM : D.2.2.2.2.1 pc = some (.getstatic ix, n)) (q : ea_getstatic ix ob d j pc n (pc + n) la st fs h = some s) (k : ewS σ K s) : ewS σ K ((d, j, pc, la, st) :: fs, none, h) := by
  obtain ⟨h1, q1⟩ := ei_ok q
  obtain ⟨v, e, q2⟩ := ev_ks_ok (σ := σ) (st := st) (h := h) q1
  exact ⟨D, hD, g_h (pc + n) hM (by rw [ev_pl_eq hD] at e; exact e) (bq h1) rfl (nx_ok hD q2 k)⟩
theorem ea_ldc_ok {ix : Nat} (hD : mx j = some D) (hM : D.2.2.2.2.1 pc = some (.ldc ix, n)) (q : ea_ldc ix ob d j pc n (pc + n) la st fs h = some s) (k : ewS σ K s) : ewS σ K ((d, j, pc, la, st) :: fs, none, h) := by
  obtain ⟨h1, q1⟩ := ei_ok q
  obtain ⟨v, e, q2⟩ := ev_kk_ok (σ := σ) (st := st) (h := h) q1
  exact ⟨D, hD, g_h (pc + n) hM (by rw [ev_pl_eq hD] at e; exact e) (bq h1) rfl (nx_ok hD q2 k)⟩
theorem ea_ldc_w_ok {ix : Nat} (hD : mx j = some D) (hM : D.2.2.2.2.1 pc = some (.ldc_w ix, n)) (q : ea_ldc_w ix ob d j pc n (pc + n) la st fs h = some s) (k : ewS σ K s) : ewS σ K ((d, j, pc, la, st) :: fs, none, h) := by
  obtain ⟨h1, q1⟩ := ei_ok q
  obtain ⟨v, e, q2⟩ := ev_kk_ok (σ := σ) (st := st) (h := h) q1
  exact ⟨D, hD, g_h (pc + n) hM (by rw [ev_pl_eq hD] at e; exact e) (bq h1) rfl (nx_ok hD q2 k)⟩
theorem ea_ldc2_w_ok {ix : Nat} (hD : mx j = some D) (hM : D.2.2.2.2.1 pc = some (.ldc2_w ix, n)) (q : ea_ldc2_w ix ob d j pc n (pc + n) la st fs h = some s) (k : ewS σ K s) : ewS σ K ((d, j, pc, la, st) :: fs, none, h) := by
  obtain ⟨h1, q1⟩ := ei_ok q
  obtain ⟨v, e, q2⟩ := ev_kk_ok (σ := σ) (st := st) (h := h) q1
  exact ⟨D, hD, g_h (pc + n) hM (by rw [ev_pl_eq hD] at e; exact e) (bq h1) rfl (nx_ok hD q2 k)⟩
theorem ea_new_ok {ix : Nat} (hD : mx j = some D) (hM : D.2.2.2.2.1 pc = some (.new ix, n)) (q : ea_new ix ob d j pc n (pc + n) la st fs h = some s) (k : ewS σ K s) : ewS σ K ((d, j, pc, la, st) :: fs, none, h) := by
  obtain ⟨h1, q1⟩ := ei_ok q
  obtain ⟨st2, h2, e, q2⟩ := ev_nw_ok (σ := σ) q1
  exact ⟨D, hD, g_h (pc + n) hM (by rw [ev_pl_eq hD] at e; exact e) (bq h1) rfl (nx_ok hD q2 k)⟩
theorem ea_newarray_ok {a : ArrayType} (hD : mx j = some D) (hM : D.2.2.2.2.1 pc = some (.newarray a, n)) (q : ea_newarray a ob d j pc n (pc + n) la st fs h = some s) (k : ewS σ K s) : ewS σ K ((d, j, pc, la, st) :: fs, none, h) := by
  obtain ⟨h1, q1⟩ := ei_ok q
  obtain ⟨h2, q2⟩ := ei_ok q1
  obtain ⟨st2, hh, e, q3⟩ := ev_na_ok (σ := σ) q2
  refine ⟨D, hD, g_h (pc + n) hM ?_ (bq h1) rfl (nx_ok hD q3 k)⟩
  show (if eg_nt a = true then eg_na (newarray.typeOf a) (ss σ st) (eh_h σ h) else none) = _
  rw [if_pos h2]
  exact e
theorem ea_anewarray_ok {ix : Nat} (hD : mx j = some D) (hM : D.2.2.2.2.1 pc = some (.anewarray ix, n)) (q : ea_anewarray ix ob d j pc n (pc + n) la st fs h = some s) (k : ewS σ K s) : ewS σ K ((d, j, pc, la, st) :: fs, none, h) := by
  obtain ⟨h1, q1⟩ := ei_ok q
  obtain ⟨st2, h2, e, q2⟩ := ev_nq_ok (σ := σ) q1
  exact ⟨D, hD, g_h (pc + n) hM (by rw [ev_pl_eq hD] at e; exact e) (bq h1) rfl (nx_ok hD q2 k)⟩
theorem ea_invokespecial_ok {ix : Nat} (hob : ob_ok σ ob) (hD : mx j = some D) (hM : D.2.2.2.2.1 pc = some (.invokespecial ix, n)) (q : ea_invokespecial ix ob d j pc n (pc + n) la st fs h = some s) (k : ewS σ K s) : ewS σ K ((d, j, pc, la, st) :: fs, none, h) := by
  obtain ⟨h1, q1⟩ := ei_ok q
  have hn := bq h1
  subst hn
  rcases ev_oi_ok (σ := σ) (h := h) q1 with ⟨st2, e, q2⟩ | q2
  · exact ⟨D, hD, g_h (pc + 3) hM (by rw [ev_pl_eq hD] at e; exact e) rfl rfl (nx_ok hD q2 k)⟩
  · obtain ⟨g, j2, m, w, e0, q3⟩ := ev_q_ok q2
    rw [ev_pl_eq hD] at e0
    obtain ⟨h2, q4⟩ := ev_tk_ok m q3
    obtain ⟨a, r2, e2, q5⟩ := pA_ok q4
    obtain ⟨h3, q6⟩ := ei_ok q5
    refine g_go hob hD hM (fun hs => ?_) q6 k
    show (match D.2.2.2.2.2 ix with
      | some q => if (q.1 = 5 ∨ q.1 = 10) ∧ q.2.2.1 ≤ (ss σ st).length then (match (ss σ st).drop q.2.2.1 with
        | Value.ref a :: r => if eg_sum r ≤ 8 then some (q.2.1, Value.ref a :: ((ss σ st).take q.2.2.1).reverse, r) else none
        | _ => none) else none
      | none => none) = _
    rw [e0]
    dsimp only
    rw [if_pos ⟨tag2 h3, by rw [ss_len]; exact h2⟩, ss_drop, e2]
    show (if eg_sum (ss σ r2) ≤ 8 then _ else none) = _
    rw [ss_sum, if_pos hs, ss_take]
    simp [ss, sv]
theorem ea_invokestatic_ok {ix : Nat} (hob : ob_ok σ ob) (hD : mx j = some D) (hM : D.2.2.2.2.1 pc = some (.invokestatic ix, n)) (q : ea_invokestatic ix ob d j pc n (pc + n) la st fs h = some s) (k : ewS σ K s) : ewS σ K ((d, j, pc, la, st) :: fs, none, h) := by
  obtain ⟨h1, q1⟩ := ei_ok q
  have hn := bq h1
  subst hn
  rcases ev_is_ok (σ := σ) (cl := cl) q1 with ⟨st2, h2, e, q2⟩ | q2
  · rw [ev_pl_eq hD] at e
    rcases q2 with ⟨e2, q2⟩ | q2
    · subst e2
      exact ⟨D, hD, g_h (pc + 3) hM e rfl rfl (nx_ok hD q2 k)⟩
    · exact ⟨D, hD, g_h (pc + 3) hM e rfl rfl (nx_ok hD q2 k)⟩
  · obtain ⟨g, j2, m, w, e0, q3⟩ := ev_q_ok q2
    rw [ev_pl_eq hD] at e0
    obtain ⟨h2, q4⟩ := ev_tk_ok m q3
    obtain ⟨h3, q6⟩ := ei_ok q4
    refine g_go hob hD hM (fun hs => ?_) q6 k
    show (match D.2.2.2.2.2 ix with
      | some q => if (q.1 = 7 ∨ q.1 = 9) ∧ q.2.2.1 ≤ (ss σ st).length ∧ eg_sum ((ss σ st).drop q.2.2.1) ≤ 8 then some (q.2.1, ((ss σ st).take q.2.2.1).reverse, (ss σ st).drop q.2.2.1) else none
      | none => none) = _
    rw [e0]
    dsimp only
    rw [ss_drop, if_pos ⟨tag2 h3, by rw [ss_len]; exact h2, by rw [ss_sum]; exact hs⟩, ss_take]
    simp [ss]
theorem ea_invokevirtual_ok {ix : Nat} (hob : ob_ok σ ob) (hD : mx j = some D) (hM : D.2.2.2.2.1 pc = some (.invokevirtual ix, n)) (q : ea_invokevirtual ix ob d j pc n (pc + n) la st fs h = some s) (k : ewS σ K s) : ewS σ K ((d, j, pc, la, st) :: fs, none, h) := by
  obtain ⟨h1, q1⟩ := ei_ok q
  have hn := bq h1
  subst hn
  obtain ⟨g, j2, m, w, e0, q3⟩ := ev_q_ok q1
  rw [ev_pl_eq hD] at e0
  obtain ⟨h2, q4⟩ := ev_tk_ok m q3
  obtain ⟨a, r2, e2, q5⟩ := pA_ok q4
  obtain ⟨ty, m1, d1, A, a1, a2, q6⟩ := ev_at_ok q5
  obtain ⟨kk, e3, q7⟩ := ev_T_r q6
  obtain ⟨k2, r3, e4, q8⟩ := pA_ok q7
  obtain ⟨h3, q9⟩ := ei_ok q8
  obtain ⟨h4, q10⟩ := ei_ok q9
  cases e4
  refine g_go hob hD hM (fun hs => ?_) q10 k
  show (match D.2.2.2.2.2 ix with
    | some q => if (q.1 = 6 ∨ q.1 = 8) ∧ q.2.2.1 ≤ (ss σ st).length then (match (ss σ st).drop q.2.2.1 with
      | Value.ref a :: r => (match (eh_h σ h).1 a with
        | some (.inr o) => if q.2.2.2 = Value.ref o.1 ∧ eg_sum r ≤ 8 then some (q.2.1, Value.ref a :: ((ss σ st).take q.2.2.1).reverse, r) else none
        | _ => none)
      | _ => none) else none
    | none => none) = _
  rw [e0]
  dsimp only
  rw [if_pos ⟨tag2 h4, by rw [ss_len]; exact h2⟩, ss_drop, e2]
  show (match (eh_h σ h).1 a with
        | some (.inr o) => if Value.ref k2 = Value.ref o.1 ∧ eg_sum (ss σ r2) ≤ 8 then some (j2, Value.ref a :: ((ss σ st).take m).reverse, ss σ r2) else none
        | _ => none) = _
  rw [eh_at a1, a2, e3, ec_c_r]
  dsimp only
  rw [ss_sum, if_pos ⟨by rw [bq h3], hs⟩, ss_take]
  simp [ss, sv]
theorem ea_ireturn_ok (hD : mx j = some D) (hM : D.2.2.2.2.1 pc = some (.ireturn, n)) (q : ea_ireturn ob d j pc n (pc + n) la st fs h = some s) (k : ewS σ K s) : ewS σ K ((d, j, pc, la, st) :: fs, none, h) := by
  obtain ⟨h1, q1⟩ := ei_ok q
  have hn := bq h1
  subst hn
  obtain ⟨v, r, rfl, q2⟩ := pV_ok q1
  obtain ⟨h2, q3⟩ := ei_ok q2
  obtain ⟨h3, q4⟩ := ei_ok q3
  cases r with
    | cons a b => cases h2
    | nil =>
      refine ⟨D, hD, g_ret (v := (some v).map (sv σ)) ?_ (ev_end_ok q4 k)⟩
      rw [ev_ty_eq hD] at h3
      exact eg_ret_i hM h3
theorem ea_lreturn_ok (hD : mx j = some D) (hM : D.2.2.2.2.1 pc = some (.lreturn, n)) (q : ea_lreturn ob d j pc n (pc + n) la st fs h = some s) (k : ewS σ K s) : ewS σ K ((d, j, pc, la, st) :: fs, none, h) := by
  obtain ⟨h1, q1⟩ := ei_ok q
  have hn := bq h1
  subst hn
  obtain ⟨v, r, rfl, q2⟩ := pV_ok q1
  obtain ⟨h2, q3⟩ := ei_ok q2
  obtain ⟨h3, q4⟩ := ei_ok q3
  cases r with
    | cons a b => cases h2
    | nil =>
      refine ⟨D, hD, g_ret (v := (some v).map (sv σ)) ?_ (ev_end_ok q4 k)⟩
      rw [ev_ty_eq hD] at h3
      exact eg_ret_j hM h3
theorem ea_areturn_ok (hD : mx j = some D) (hM : D.2.2.2.2.1 pc = some (.areturn, n)) (q : ea_areturn ob d j pc n (pc + n) la st fs h = some s) (k : ewS σ K s) : ewS σ K ((d, j, pc, la, st) :: fs, none, h) := by
  obtain ⟨h1, q1⟩ := ei_ok q
  have hn := bq h1
  subst hn
  obtain ⟨v, r, rfl, q2⟩ := pV_ok q1
  obtain ⟨h2, q3⟩ := ei_ok q2
  obtain ⟨h3, q4⟩ := ei_ok q3
  cases r with
    | cons a b => cases h2
    | nil =>
      refine ⟨D, hD, g_ret (v := (some v).map (sv σ)) ?_ (ev_end_ok q4 k)⟩
      rw [ev_ty_eq hD] at h3
      exact eg_ret_a hM h3
theorem ea_return__ok (hD : mx j = some D) (hM : D.2.2.2.2.1 pc = some (.return_, n)) (q : ea_return_ ob d j pc n (pc + n) la st fs h = some s) (k : ewS σ K s) : ewS σ K ((d, j, pc, la, st) :: fs, none, h) := by
  obtain ⟨h1, q1⟩ := ei_ok q
  have hn := bq h1
  subst hn
  obtain ⟨h2, q3⟩ := ei_ok q1
  obtain ⟨h3, q4⟩ := ei_ok q3
  cases st with
    | cons a b => cases h2
    | nil =>
      refine ⟨D, hD, g_ret (v := (none : Option Value).map (sv σ)) ?_ (ev_end_ok q4 k)⟩
      rw [ev_ty_eq hD] at h3
      exact eg_ret_v hM h3
set_option maxHeartbeats 4000000 in
/-- a step -/
theorem ev_s_ok (hσ : ∀ j, j < 256 → (σ.1 j).toInt8.toInt32 = σ.1 j) (hob : ob_ok σ ob) {s s2 : es} (q : ev_s ob s = some s2) (k : ewS σ K s2) : ewS σ K s := by
  obtain ⟨l, v, h⟩ := s
  cases l with
  | nil =>
    have e : s2 = ([], v, h) := (Option.some.inj q).symm
    subst e
    exact k
  | cons f fs =>
    obtain ⟨d, j, pc, la, st⟩ := f
    replace q : ev_b ob (ev_cd j pc) d j pc la st fs h = some s2 := q
    show ewS σ K ((d, j, pc, la, st) :: fs, none, h)
    cases hD : mx j with
    | none =>
      have e : ev_cd j pc = none := by unfold ev_cd; rw [hD]
      rw [e] at q
      exact eg_no q
    | some D =>
      have e : ev_cd j pc = D.2.2.2.2.1 pc := by unfold ev_cd; rw [hD]
      rw [e] at q
      cases hM : D.2.2.2.2.1 pc with
      | none => rw [hM] at q; exact eg_no q
      | some p =>
        obtain ⟨i, n⟩ := p
        rw [hM] at q
        replace q : ev_N (Nat.add pc n) (fun q => ev_a i ob d j pc n q la st fs h) = some s2 := q
        rw [ev_N_eq] at q
        cases i <;> (try (exact eg_no q))
        case aaload => exact ea_aaload_ok (ob := ob) hD hM q k
        case aastore => exact ea_aastore_ok (ob := ob) hD hM q k
        case aconst_null => exact ea_aconst_null_ok (ob := ob) hD hM q k
        case aload _ => exact ea_aload_ok (ob := ob) hD hM q k
        case aload_n _ => exact ea_aload_n_ok (ob := ob) hD hM q k
        case anewarray _ => exact ea_anewarray_ok (ob := ob) hD hM q k
        case areturn => exact ea_areturn_ok (ob := ob) hD hM q k
        case arraylength => exact ea_arraylength_ok (ob := ob) hD hM q k
        case astore _ => exact ea_astore_ok (ob := ob) hD hM q k
        case astore_n _ => exact ea_astore_n_ok (ob := ob) hD hM q k
        case baload => exact ea_baload_ok (ob := ob) hD hM q k
        case bastore => exact ea_bastore_ok (ob := ob) hσ hD hM q k
        case bipush _ => exact ea_bipush_ok (ob := ob) hD hM q k
        case dup => exact ea_dup_ok (ob := ob) hD hM q k
        case dup2 => exact ea_dup2_ok (ob := ob) hD hM q k
        case getfield _ => exact ea_getfield_ok (ob := ob) hD hM q k
        case getstatic _ => exact ea_getstatic_ok (ob := ob) hD hM q k
        case goto _ => exact ea_goto_ok (ob := ob) hD hM q k
        case i2b => exact ea_i2b_ok (ob := ob) hD hM q k
        case i2l => exact ea_i2l_ok (ob := ob) hD hM q k
        case i2s => exact ea_i2s_ok (ob := ob) hD hM q k
        case iadd => exact ea_iadd_ok (ob := ob) hD hM q k
        case iaload => exact ea_iaload_ok (ob := ob) hD hM q k
        case iand => exact ea_iand_ok (ob := ob) hD hM q k
        case iastore => exact ea_iastore_ok (ob := ob) hσ hD hM q k
        case iconst _ => exact ea_iconst_ok (ob := ob) hD hM q k
        case idiv => exact ea_idiv_ok (ob := ob) hD hM q k
        case if_acmp _ _ => exact ea_if_acmp_ok (ob := ob) hD hM q k
        case if_icmp _ _ => exact ea_if_icmp_ok (ob := ob) hD hM q k
        case ifCond _ _ => exact ea_ifCond_ok (ob := ob) hD hM q k
        case ifnonnull _ => exact ea_ifnonnull_ok (ob := ob) hD hM q k
        case ifnull _ => exact ea_ifnull_ok (ob := ob) hD hM q k
        case iinc _ _ => exact ea_iinc_ok (ob := ob) hD hM q k
        case iload _ => exact ea_iload_ok (ob := ob) hD hM q k
        case iload_n _ => exact ea_iload_n_ok (ob := ob) hD hM q k
        case imul => exact ea_imul_ok (ob := ob) hD hM q k
        case ineg => exact ea_ineg_ok (ob := ob) hD hM q k
        case invokespecial _ => exact ea_invokespecial_ok (ob := ob) hob hD hM q k
        case invokestatic _ => exact ea_invokestatic_ok (ob := ob) hob hD hM q k
        case invokevirtual _ => exact ea_invokevirtual_ok (ob := ob) hob hD hM q k
        case ior => exact ea_ior_ok (ob := ob) hD hM q k
        case irem => exact ea_irem_ok (ob := ob) hD hM q k
        case ireturn => exact ea_ireturn_ok (ob := ob) hD hM q k
        case ishl => exact ea_ishl_ok (ob := ob) hD hM q k
        case ishr => exact ea_ishr_ok (ob := ob) hD hM q k
        case istore _ => exact ea_istore_ok (ob := ob) hD hM q k
        case istore_n _ => exact ea_istore_n_ok (ob := ob) hD hM q k
        case isub => exact ea_isub_ok (ob := ob) hD hM q k
        case iushr => exact ea_iushr_ok (ob := ob) hD hM q k
        case l2i => exact ea_l2i_ok (ob := ob) hD hM q k
        case ladd => exact ea_ladd_ok (ob := ob) hD hM q k
        case laload => exact ea_laload_ok (ob := ob) hD hM q k
        case land => exact ea_land_ok (ob := ob) hD hM q k
        case lastore => exact ea_lastore_ok (ob := ob) hσ hD hM q k
        case lcmp => exact ea_lcmp_ok (ob := ob) hD hM q k
        case lconst _ => exact ea_lconst_ok (ob := ob) hD hM q k
        case ldc _ => exact ea_ldc_ok (ob := ob) hD hM q k
        case ldc_w _ => exact ea_ldc_w_ok (ob := ob) hD hM q k
        case ldc2_w _ => exact ea_ldc2_w_ok (ob := ob) hD hM q k
        case ldiv => exact ea_ldiv_ok (ob := ob) hD hM q k
        case lload _ => exact ea_lload_ok (ob := ob) hD hM q k
        case lload_n _ => exact ea_lload_n_ok (ob := ob) hD hM q k
        case lmul => exact ea_lmul_ok (ob := ob) hD hM q k
        case lookupswitch _ _ => exact ea_lookupswitch_ok (ob := ob) hD hM q k
        case lor => exact ea_lor_ok (ob := ob) hD hM q k
        case lrem => exact ea_lrem_ok (ob := ob) hD hM q k
        case lreturn => exact ea_lreturn_ok (ob := ob) hD hM q k
        case lshl => exact ea_lshl_ok (ob := ob) hD hM q k
        case lshr => exact ea_lshr_ok (ob := ob) hD hM q k
        case lstore _ => exact ea_lstore_ok (ob := ob) hD hM q k
        case lstore_n _ => exact ea_lstore_n_ok (ob := ob) hD hM q k
        case lsub => exact ea_lsub_ok (ob := ob) hD hM q k
        case lushr => exact ea_lushr_ok (ob := ob) hD hM q k
        case new _ => exact ea_new_ok (ob := ob) hD hM q k
        case newarray _ => exact ea_newarray_ok (ob := ob) hD hM q k
        case pop => exact ea_pop_ok (ob := ob) hD hM q k
        case putfield _ => exact ea_putfield_ok (ob := ob) hD hM q k
        case return_ => exact ea_return__ok (ob := ob) hD hM q k
        case sipush _ => exact ea_sipush_ok (ob := ob) hD hM q k
        case tableswitch _ _ _ _ => exact ea_tableswitch_ok (ob := ob) hD hM q k
end EVH
/-! THE QUICK MACHINE IS SOUND, part 6: tokens and facts; runs -/
/-- what a fact says -/
def ft_1 (σ : sg) (e : Nat × Nat × Nat × Nat) : Prop :=
  if e.1 < 40 then ∀ r, eg_p (fi e.1) (sv σ (ev_d .null e.2.2.1) :: sv σ (ev_d .null e.2.1) :: r) = some (sv σ (ev_d .null e.2.2.2) :: r)
  else if e.1 < 200 then ∀ r, eg_p (fi e.1) (sv σ (ev_d .null e.2.1) :: r) = some (sv σ (ev_d .null e.2.2.2) :: r)
  else if e.1 < 300 then ∃ a b, sv σ (ev_d .null e.2.1) = .int a ∧ sv σ (ev_d .null e.2.2.1) = .int b ∧ eg_cnd (fc (e.1 - 200)) a b = Nat.beq e.2.2.2 9
  else if e.1 = 300 then ∃ L f, σ.2.2 = some (.inl (.int, L, f)) ∧ e.2.1 < L ∧ e.2.1 < 2147483648 ∧ f e.2.1 = sv σ (ev_d .null e.2.2.2)
  else ∃ L f, σ.2.2 = some (.inl (.int, L, f)) ∧ sv σ (ev_d .null e.2.2.2) = .int (Int32.ofNat L)
def fa_ok (σ : sg) (l : fa) : Prop := ∀ e ∈ l, ft_1 σ e
def fj_1 (σ : sg) (e : Nat × Nat × Nat × Nat × Nat) : Prop := ∀ D, mx e.1 = some D → ∀ d la r h K, eg_K cl kY 3 mt d D.2.2.2.1 D.2.2.2.2 (e.2.2.2.1, la, sv σ (ev_d .null e.2.2.2.2) :: r, h) K → eg_K cl kY 3 mt d D.2.2.2.1 D.2.2.2.2 (e.2.1, la, sv σ (ev_d .null e.2.2.1) :: r, h) K
def fj_ok (σ : sg) (l : fj) : Prop := ∀ e ∈ l, fj_1 σ e
def ft_ok (σ : sg) (l : ft) : Prop := fa_ok σ l.1 ∧ fj_ok σ l.2
theorem ev_jl_ok {β : Type} {r : β} {l : fj} {j pc x : Nat} {c : Nat → Nat → Option β} (q : ev_jl l j pc x c = some r) : ∃ p z, (j, pc, x, p, z) ∈ l ∧ c p z = some r := by
  induction l with
  | nil => exact eg_no q
  | cons e l ih =>
    rcases ev_w_ok (show ev_w (Nat.beq e.1 j && Nat.beq e.2.1 pc && Nat.beq e.2.2.1 x) (ev_jl l j pc x c) (ev_N e.2.2.2.1 (fun p => ev_N e.2.2.2.2 (fun z => c p z))) = some r from q) with ⟨h1, q1⟩ | ⟨h1, q1⟩
    · obtain ⟨p, z, h2, h3⟩ := ih q1
      exact ⟨p, z, List.mem_cons_of_mem _ h2, h3⟩
    · rw [ev_N_eq, ev_N_eq] at q1
      rw [Bool.and_eq_true, Bool.and_eq_true] at h1
      obtain ⟨⟨a1, a2⟩, a3⟩ := h1
      refine ⟨e.2.2.2.1, e.2.2.2.2, ?_, q1⟩
      rw [← bq a1, ← bq a2, ← bq a3]
      exact List.mem_cons_self
theorem ev_lk_ok {β : Type} {r : β} {l : fa} {o x y : Nat} {c : Nat → Option β} (q : ev_lk l o x y c = some r) : ∃ z, (o, x, y, z) ∈ l ∧ c z = some r := by
  induction l with
  | nil => exact eg_no q
  | cons e l ih =>
    rcases ev_w_ok (show ev_w (Nat.beq e.1 o && Nat.beq e.2.1 x && Nat.beq e.2.2.1 y) (ev_lk l o x y c) (ev_N e.2.2.2 c) = some r from q) with ⟨h1, q1⟩ | ⟨h1, q1⟩
    · obtain ⟨z, h2, h3⟩ := ih q1
      exact ⟨z, List.mem_cons_of_mem _ h2, h3⟩
    · rw [ev_N_eq] at q1
      rw [Bool.and_eq_true, Bool.and_eq_true] at h1
      obtain ⟨⟨a1, a2⟩, a3⟩ := h1
      refine ⟨e.2.2.2, ?_, q1⟩
      rw [← bq a1, ← bq a2, ← bq a3]
      exact List.mem_cons_self
theorem fo_fi {i : Instr} (h : 1 ≤ fo i) : fi (fo i) = i ∧ eg_pl i = 1 ∧ fo i < 200 := by
  cases i <;> first | (exact ⟨rfl, rfl, by decide⟩) | (exact absurd (show 1 ≤ 0 from h) (by decide))
theorem fc_fn (c : ClassFile.Cond) : fc (fn c) = c ∧ fn c < 100 := by cases c <;> exact ⟨rfl, by decide⟩
section EVT
variable {σ : sg} {K : Option Value → eg_H → Prop} {s : es} {d j pc n : Nat} {la : eg_L} {st : List Value} {fs : List fr} {h : eh} {D : eg_D} {ob : eo} {l : fa}
theorem ft_cond (hl : fa_ok σ l) {c : ClassFile.Cond} {x y z : Nat} (hz : (200 + fn c, x, y, z) ∈ l) : ∃ a b, sv σ (ev_d .null x) = .int a ∧ sv σ (ev_d .null y) = .int b ∧ eg_cnd c a b = Nat.beq z 9 := by
  have h0 := hl _ hz
  have h1 := (fc_fn c).2
  unfold ft_1 at h0
  dsimp only at h0
  rw [if_neg (by omega), if_neg (by omega), if_pos (by omega), show 200 + fn c - 200 = fn c by omega, (fc_fn c).1] at h0
  exact h0
set_option maxHeartbeats 4000000 in
theorem ev_u_ok (hl : fa_ok σ l) (hD : mx j = some D) {i : Instr} (hM : D.2.2.2.2.1 pc = some (i, n)) (q : ev_u l i n d j pc la st fs h = some s) (k : ewS σ K s) : ewS σ K ((d, j, pc, la, st) :: fs, none, h) := by
  unfold ev_u at q
  split at q
  · next c off =>
    obtain ⟨x, r, rfl, q1⟩ := pV_ok q
    obtain ⟨cx, x1, x2, q2⟩ := ev_e_ok q1
    obtain ⟨hn, q3⟩ := ei_ok q2
    replace hn := bq hn
    subst hn
    obtain ⟨z, hz, q4⟩ := ev_lk_ok q3
    obtain ⟨a, b, e1, e2, e3⟩ := ft_cond hl hz
    obtain ⟨q5, e, q6⟩ := ev_if_ok (F := fun q => nx d j fs h la q r) q4
    refine ⟨D, hD, g_b q5 hM ?_ rfl (nx_ok hD q6 k)⟩
    rw [x2] at e1
    have e4 : b = 0 := by
      have e5 : sv σ (ev_d .null 1) = .int 0 := rfl
      rw [e5] at e2
      exact (Value.int.inj e2).symm
    subst e4
    have e6 := e (ss σ r)
    rw [← e3] at e6
    show eg_b 3 pc (.ifCond c off) (sv σ x :: ss σ r) = _
    rw [e1]
    exact e6
  · next c off =>
    obtain ⟨y, r0, rfl, q1⟩ := pV_ok q
    obtain ⟨x, r, rfl, q1⟩ := pV_ok q1
    obtain ⟨cx, x1, x2, q2⟩ := ev_e_ok q1
    obtain ⟨cy, y1, y2, q2⟩ := ev_e_ok q2
    obtain ⟨hn, q3⟩ := ei_ok q2
    replace hn := bq hn
    subst hn
    obtain ⟨z, hz, q4⟩ := ev_lk_ok q3
    obtain ⟨a, b, e1, e2, e3⟩ := ft_cond hl hz
    obtain ⟨q5, e, q6⟩ := ev_if_ok (F := fun q => nx d j fs h la q r) q4
    refine ⟨D, hD, g_b q5 hM ?_ rfl (nx_ok hD q6 k)⟩
    rw [x2] at e1
    rw [y2] at e2
    have e6 := e (ss σ r)
    rw [← e3] at e6
    show eg_b 3 pc (.if_icmp c off) (sv σ y :: sv σ x :: ss σ r) = _
    rw [e1, e2]
    exact e6
  · obtain ⟨i, r, rfl, q1⟩ := pI_ok q
    obtain ⟨a, r, rfl, q1⟩ := pA_ok q1
    obtain ⟨hn, q2⟩ := ei_ok q1
    replace hn := bq hn
    subst hn
    obtain ⟨ha, q3⟩ := ei_ok q2
    replace ha := bq ha
    subst ha
    obtain ⟨z, hz, q4⟩ := ev_lk_ok q3
    rw [ev_N_eq, ev_x_eq] at q4
    have h0 := hl _ hz
    unfold ft_1 at h0
    dsimp only at h0
    rw [if_neg (by decide), if_neg (by decide), if_neg (by decide), if_pos rfl] at h0
    obtain ⟨L, f, f1, f2, f3, f4⟩ := h0
    refine ⟨D, hD, g_h (pc + 1) hM ?_ rfl rfl (nx_ok hD q4 k)⟩
    show (match (eh_h σ h).1 0 with
      | some (.inl x) => if eg_tI x.1 = true ∧ eg_in i x.2.1 = true then some (x.2.2 i.toNatClampNeg :: ss σ r, eh_h σ h) else none
      | _ => none) = _
    rw [eh_0, f1]
    show (if eg_tI .int = true ∧ eg_in i L = true then some (f i.toNatClampNeg :: ss σ r, eh_h σ h) else none) = _
    rw [if_pos ⟨rfl, eg_in_u f3 f2⟩, (u32_in f3).1, f4]
    rfl
  · obtain ⟨a, r, rfl, q1⟩ := pA_ok q
    obtain ⟨hn, q2⟩ := ei_ok q1
    replace hn := bq hn
    subst hn
    obtain ⟨ha, q3⟩ := ei_ok q2
    replace ha := bq ha
    subst ha
    obtain ⟨z, hz, q4⟩ := ev_lk_ok q3
    rw [ev_N_eq, ev_x_eq] at q4
    have h0 := hl _ hz
    unfold ft_1 at h0
    dsimp only at h0
    rw [if_neg (by decide), if_neg (by decide), if_neg (by decide), if_neg (by decide)] at h0
    obtain ⟨L, f, f1, f4⟩ := h0
    refine ⟨D, hD, g_h (pc + 1) hM ?_ rfl rfl (nx_ok hD q4 k)⟩
    show (match (eh_h σ h).1 0 with
      | some (.inl x) => some (Value.int (Int32.ofNat x.2.1) :: ss σ r, eh_h σ h)
      | _ => none) = _
    rw [eh_0, f1]
    show some (Value.int (Int32.ofNat L) :: ss σ r, eh_h σ h) = _
    rw [← f4]
    rfl
  · obtain ⟨hn, q1⟩ := ei_ok q
    replace hn := bq hn
    subst hn
    obtain ⟨ho, q2⟩ := ei_ok q1
    obtain ⟨o1, o2, o3⟩ := fo_fi (be ho)
    rcases ev_w_ok q2 with ⟨h1, q3⟩ | ⟨h1, q3⟩
    · obtain ⟨y, r0, rfl, q4⟩ := pV_ok q3
      obtain ⟨x, r, rfl, q5⟩ := pV_ok q4
      obtain ⟨cx, x1, x2, q6⟩ := ev_e_ok q5
      obtain ⟨cy, y1, y2, q7⟩ := ev_e_ok q6
      obtain ⟨z, hz, q8⟩ := ev_lk_ok q7
      rw [ev_N_eq, ev_x_eq] at q8
      have h40 : fo i < 40 := by
        rcases Nat.lt_or_ge (fo i) 40 with a | a
        · exact a
        · rw [Nat.ble_eq_true_of_le a] at h1
          cases h1
      have h0 := hl _ hz
      unfold ft_1 at h0
      dsimp only at h0
      rw [if_pos h40, x2, y2, o1] at h0
      exact ⟨D, hD, g_p (pc + 1) hM (h0 _) o2.symm rfl (nx_ok hD q8 k)⟩
    · obtain ⟨x, r, rfl, q5⟩ := pV_ok q3
      obtain ⟨cx, x1, x2, q6⟩ := ev_e_ok q5
      obtain ⟨z, hz, q8⟩ := ev_lk_ok q6
      rw [ev_N_eq, ev_x_eq] at q8
      have h40 := be h1
      have h0 := hl _ hz
      unfold ft_1 at h0
      dsimp only at h0
      rw [if_neg (by omega), if_pos o3, x2, o1] at h0
      exact ⟨D, hD, g_p (pc + 1) hM (h0 _) o2.symm rfl (nx_ok hD q8 k)⟩
theorem ev_jp_ok {l : fj} (hl : fj_ok σ l) (hD : mx j = some D) (q : ev_jp l d j pc la st fs h = some s) (k : ewS σ K s) : ewS σ K ((d, j, pc, la, st) :: fs, none, h) := by
  obtain ⟨x, r, rfl, q1⟩ := pV_ok q
  obtain ⟨cx, x1, x2, q2⟩ := ev_e_ok q1
  obtain ⟨p, z, hz, q3⟩ := ev_jl_ok q2
  rw [ev_x_eq] at q3
  have h0 := hl _ hz D hD d (slQ σ la) (ss σ r) (eh_h σ h) _ (nx_ok hD q3 k)
  dsimp only at h0
  rw [x2] at h0
  exact ⟨D, hD, h0⟩
theorem ev_t_ok {l : ft} (hl : ft_ok σ l) {s s2 : es} (q : ev_t l s = some s2) (k : ewS σ K s2) : ewS σ K s := by
  obtain ⟨fs, v, h⟩ := s
  cases fs with
  | nil => exact eg_no q
  | cons f fs =>
    obtain ⟨d, j, pc, la, st⟩ := f
    replace q : Option.rec (motive := fun _ => Option es) none (fun p => Prod.rec (motive := fun _ => Option es) (fun i n => Option.rec (motive := fun _ => Option es) (ev_jp l.2 d j pc la st fs h) (fun s2 => some s2) (ev_u l.1 i n d j pc la st fs h)) p) (ev_cd j pc) = some s2 := q
    show ewS σ K ((d, j, pc, la, st) :: fs, none, h)
    cases hD : mx j with
    | none =>
      have e : ev_cd j pc = none := by unfold ev_cd; rw [hD]
      rw [e] at q
      exact eg_no q
    | some D =>
      have e : ev_cd j pc = D.2.2.2.2.1 pc := by unfold ev_cd; rw [hD]
      rw [e] at q
      cases hM : D.2.2.2.2.1 pc with
      | none => rw [hM] at q; exact eg_no q
      | some p =>
        obtain ⟨i, n⟩ := p
        rw [hM] at q
        replace q : Option.rec (motive := fun _ => Option es) (ev_jp l.2 d j pc la st fs h) (fun s2 => some s2) (ev_u l.1 i n d j pc la st fs h) = some s2 := q
        cases e3 : ev_u l.1 i n d j pc la st fs h with
        | none => rw [e3] at q; exact ev_jp_ok hl.2 hD q k
        | some s3 =>
          rw [e3] at q
          have e4 : s3 = s2 := Option.some.inj q
          subst e4
          exact ev_u_ok hl.1 hD hM e3 k
theorem ev_m_ok {l : ft} (hσ : ∀ j, j < 256 → (σ.1 j).toInt8.toInt32 = σ.1 j) (hob : ob_ok σ ob) (hl : ft_ok σ l) {s s2 : es} (q : ev_m ob l s = some s2) (k : ewS σ K s2) : ewS σ K s := by
  unfold ev_m at q
  cases e : ev_s ob s with
  | none => rw [e] at q; exact ev_t_ok hl q k
  | some s3 =>
    rw [e] at q
    have e2 : s3 = s2 := Option.some.inj q
    subst e2
    exact ev_s_ok hσ hob e k
/-- 2 ^ m steps -/
theorem ev_r_ok {l : ft} (hσ : ∀ j, j < 256 → (σ.1 j).toInt8.toInt32 = σ.1 j) (hob : ob_ok σ ob) (hl : ft_ok σ l) : ∀ (m : Nat) {s s2 : es}, ev_r ob l m s = some s2 → ewS σ K s2 → ewS σ K s
  | 0, s, s2, q, k => ev_m_ok hσ hob hl q k
  | m + 1, s, s2, q, k => by
    replace q : Option.rec (motive := fun _ => Option es) none (fun s2 => ev_r ob l m s2) (ev_r ob l m s) = some s2 := q
    cases e : ev_r ob l m s with
    | none => rw [e] at q; exact eg_no q
    | some s3 =>
      rw [e] at q
      exact ev_r_ok hσ hob hl m e (ev_r_ok hσ hob hl m q k)
end EVT
/-- 2 ^ k steps for each k of a list -/
noncomputable def ev_rs (ob : eo) (f : ft) (l : List Nat) : es → Option es := List.rec (motive := fun _ => es → Option es) (fun s => some s) (fun k _ ih s => Option.rec (motive := fun _ => Option es) none (fun s2 => ih s2) (ev_r ob f k s)) l
theorem ev_rs_ok {σ : sg} {K : Option Value → eg_H → Prop} {ob : eo} {f : ft} (hσ : ∀ j, j < 256 → (σ.1 j).toInt8.toInt32 = σ.1 j) (hob : ob_ok σ ob) (hf : ft_ok σ f) : ∀ (l : List Nat) {s s2 : es}, ev_rs ob f l s = some s2 → ewS σ K s2 → ewS σ K s
  | [], s, s2, q, k => by
    have e : s = s2 := Option.some.inj q
    rw [e]
    exact k
  | m :: l, s, s2, q, k => by
    replace q : Option.rec (motive := fun _ => Option es) none (fun s2 => ev_rs ob f l s2) (ev_r ob f m s) = some s2 := q
    cases e : ev_r ob f m s with
    | none => rw [e] at q; exact eg_no q
    | some s3 =>
      rw [e] at q
      exact ev_r_ok hσ hob hf m e (ev_rs_ok hσ hob hf l q k)
/-! states are told apart by computing -/
def dq0 : DecidableEq ecq := inferInstanceAs (DecidableEq ((FieldType ⊕ Nat) × Nat × Value × Nat))
def dqp {T : Type} (i : DecidableEq T) : DecidableEq (T × T) := @instDecidableEqProd T T i i
def dq9 : DecidableEq e9 := dqp (dqp (dqp (dqp (dqp (dqp (dqp (dqp (dqp dq0))))))))
def dq_a : DecidableEq (List (Option Value) × List Value) := inferInstance
def dq_b : DecidableEq (Nat × List (Option Value) × List Value) := @instDecidableEqProd _ _ _ dq_a
def dq_c : DecidableEq (Nat × Nat × List (Option Value) × List Value) := @instDecidableEqProd _ _ _ dq_b
def dq_d : DecidableEq (Nat × Nat × Nat × List (Option Value) × List Value) := @instDecidableEqProd _ _ _ dq_c
def dq_e : DecidableEq (List (Nat × Nat × Nat × List (Option Value) × List Value)) := @instDecidableEqList _ dq_d
def dq_v : DecidableEq (Option Value) := inferInstance
def dqf : DecidableEq (List fr × Option Value) := @instDecidableEqProd _ _ dq_e dq_v
def dqn : DecidableEq (Nat × Nat) := inferInstanceAs (DecidableEq (Nat × Nat))
noncomputable def es_q (o : Option es) (s : es) : Bool := Option.rec (motive := fun _ => Bool) false (fun x => (@decide ((x.1, x.2.1) = (s.1, s.2.1)) (dqf _ _)) && (@decide (x.2.2.1 = s.2.2.1) (dq9 _ _)) && (@decide (x.2.2.2 = s.2.2.2) (dqn _ _))) o
theorem es_q_ok {o : Option es} {s : es} (h : es_q o s = true) : o = some s := by
  cases o with
  | none => cases h
  | some x =>
    replace h : ((@decide ((x.1, x.2.1) = (s.1, s.2.1)) (dqf _ _)) && (@decide (x.2.2.1 = s.2.2.1) (dq9 _ _)) && (@decide (x.2.2.2 = s.2.2.2) (dqn _ _))) = true := h
    rw [Bool.and_eq_true, Bool.and_eq_true] at h
    obtain ⟨⟨h1, h2⟩, h3⟩ := h
    have e1 := @of_decide_eq_true _ (dqf _ _) h1
    have e2 := @of_decide_eq_true _ (dq9 _ _) h2
    have e3 := @of_decide_eq_true _ (dqn _ _) h3
    congr 1
    exact Prod.ext (Prod.ext_iff.1 e1).1 (Prod.ext (Prod.ext_iff.1 e1).2 (Prod.ext e2 e3))
