/-! FREEZING: rows as lists of bytes, and whether they ran over; the class -/
/-- more bytes behind a row that holds n at the most; none: it ran over -/
def apO (n : Nat) (s : Option (List Int)) (X : List Int) : Option (List Int) := match s with
  | some Y => if Y.length + X.length ≤ n then some (Y ++ X) else none
  | none => none
theorem apO_app (n : Nat) (s : Option (List Int)) (X Y : List Int) : apO n (apO n s X) Y = apO n s (X ++ Y) := by
  cases s with
  | none => rfl
  | some Z =>
    show apO n (if Z.length + X.length ≤ n then some (Z ++ X) else none) Y = if Z.length + (X ++ Y).length ≤ n then some (Z ++ (X ++ Y)) else none
    rw [List.length_append]
    by_cases c : Z.length + X.length ≤ n
    · rw [if_pos c]
      show (if (Z ++ X).length + Y.length ≤ n then some (Z ++ X ++ Y) else none) = _
      rw [List.length_append, List.append_assoc, Nat.add_assoc]
    · rw [if_neg c, if_neg (by omega)]
      rfl
theorem apO_fit {n : Nat} {Z X : List Int} (h : Z.length + X.length ≤ n) : apO n (some Z) X = some (Z ++ X) := if_pos h
theorem apO_not {n : Nat} {Z X : List Int} (h : ¬ Z.length + X.length ≤ n) : apO n (some Z) X = none := if_neg h
/-- a row: its bytes, or none where it ran over -/
def rzO (M : FM) (a b n : Nat) (s : Option (List Int)) : Prop := (0 ≤ M a 1 ∧ M a 1 ≤ n) ∧ match s with
  | some X => M a 1 = X.length ∧ sl (M b) 0 X.length = X ∧ M a 2 = 0
  | none => M a 2 = 1
theorem rzO_F {M M2 : FM} {a b n : Nat} {s : Option (List Int)} (h : rzO M a b n s) (h1 : M2 a = M a) (h2 : M2 b = M b) : rzO M2 a b n s := by
  unfold rzO at *
  rw [h1, h2]
  exact h
theorem rzO_nil {M : FM} {a b n : Nat} {s : Option (List Int)} (h : rzO M a b n s) : apO n s [] = s := by
  cases s with
  | none => rfl
  | some X =>
    have h1 : M a 1 = X.length := h.2.1
    have h2 := h.1.2
    rw [apO_fit (by show X.length + 0 ≤ n; omega), List.append_nil]
/-- k bytes of a number, the lowest first -/
def leL (v : Int) : Nat → List Int
  | 0 => []
  | k + 1 => (v % 256) :: leL (v / 256) k
theorem leL_len (k : Nat) : ∀ v : Int, (leL v k).length = k := by
  induction k with
  | zero => intro v; rfl
  | succ k ih =>
    intro v
    show (leL (v / 256) k).length + 1 = k + 1
    rw [ih]
theorem leL_back (k : Nat) : ∀ v : Int, leL v (k + 1) = leL v k ++ [v / 2 ^ (8 * k) % 256] := by
  induction k with
  | zero =>
    intro v
    show [v % 256] = [v / 2 ^ (8 * 0) % 256]
    rw [show (2 : Int) ^ (8 * 0) = 1 from rfl, Int.ediv_one]
  | succ k ih =>
    intro v
    show (v % 256) :: leL (v / 256) (k + 1) = (v % 256) :: (leL (v / 256) k ++ [v / 2 ^ (8 * (k + 1)) % 256])
    rw [ih, Int.ediv_ediv_of_nonneg (by omega), show (256 : Int) * 2 ^ (8 * k) = 2 ^ (8 * (k + 1)) by
      rw [show 8 * (k + 1) = 8 * k + 8 by omega, Int.pow_add, Int.mul_comm]
      rfl]
section CROW
variable {d nx zl : Nat} {K : Option TV → FH → Prop} {sh : Nat → Option Shp} {M : FM} {a b n : Nat} {s : Option (List Int)}
theorem putO_Y {x : Int} (hr : rowS sh a b n) (h : rzO M a b n s) (k : ∀ M2 : FM, (∀ y : Nat, y ≠ a → y ≠ b → M2 y = M y) → rzO M2 a b n (apO n s [x % 256]) → K none (sh, M2, nx, zl)) : fm_Y (d + 1) 19 [.ref a, .int (Int32.ofInt x)] (sh, M, nx, zl) K := by
  have hab : a ≠ b := hr.2.2.2.1
  obtain ⟨h0, h1⟩ := h
  have P1 : M a 1 < n → rzO (rowW M a b (ur (M b) (M a 1) (by1 x 1)) (M a 1 + 1) (M a 2)) a b n (apO n s [x % 256]) := by
    intro w
    cases s with
    | none =>
      refine ⟨by rw [rowW_1]; omega, ?_⟩
      show rowW M a b _ _ _ a 2 = 1
      rw [rowW_2]
      exact h1
    | some X =>
      have h2 : M a 1 = X.length ∧ sl (M b) 0 X.length = X ∧ M a 2 = 0 := h1
      rw [apO_fit (by show X.length + 1 ≤ n; omega)]
      have el : (X ++ [x % 256]).length = X.length + 1 := by
        rw [List.length_append]
        rfl
      refine ⟨by rw [rowW_1]; omega, ?_, ?_, ?_⟩
      · rw [rowW_1, el, h2.1]
        rfl
      · rw [rowW_b hab, el, sl_back, sl_ur (Or.inr (by omega)), h2.2.1, show (0 : Int) + X.length = M a 1 by omega, ur_at]
        unfold by1
        rw [Int.ediv_one, show ((x + 128) % 256 - 128) % 256 = x % 256 by omega]
      · rw [rowW_2]
        exact h2.2.2
  have P2 : M a 1 = n → rzO (rowW M a b (M b) (M a 1) 1) a b n (apO n s [x % 256]) := by
    intro w
    have e : apO n s [x % 256] = none := by
      cases s with
      | none => rfl
      | some X =>
        have h2 : M a 1 = X.length := h1.1
        exact apO_not (by show ¬ X.length + 1 ≤ n; omega)
    rw [e]
    refine ⟨by rw [rowW_1]; omega, ?_⟩
    show rowW M a b _ _ _ a 2 = 1
    rw [rowW_2]
  have q := put_Y (d := d) (nx := nx) (sl := zl) (K := K) (M := M) (f := M b) (s := M a 1) (o := M a 2) (x := x) hr h0.1 h0.2 (fun w => k _ (fun y y1 y2 => rowW_o y1 y2) (P1 w)) (fun w => k _ (fun y y1 y2 => rowW_o y1 y2) (P2 w))
  rw [rowW_self] at q
  exact q
theorem putAll_O {c nc : Nat} {p m : Int} (hr : rowS sh a b n) (hc : shp sh c = some (.inl (.byte, nc))) (hnc : nc ≤ 2147483647) (hca : c ≠ a) (hcb : c ≠ b) (hp : 0 ≤ p) (hm : 0 ≤ m) (h1 : p + m ≤ nc) (h : rzO M a b n s) (k : ∀ M2 : FM, (∀ y : Nat, y ≠ a → y ≠ b → M2 y = M y) → rzO M2 a b n (apO n s (sl (M c) p m.toNat)) → K none (sh, M2, nx, zl)) : fm_Y (d + 1) 35 [.ref a, .ref c, .int (Int32.ofInt p), .int (Int32.ofInt m)] (sh, M, nx, zl) K := by
  have hab : a ≠ b := hr.2.2.2.1
  have hn : n ≤ 2147483647 := hr.2.2.2.2
  obtain ⟨h0, h2⟩ := h
  by_cases fit : M a 1 + m ≤ n
  · refine putAll_M hr hc hnc hca hcb h0.1 hp hm h1 fit (k _ (fun y y1 y2 => rowW_o y1 y2) ?_)
    cases s with
    | none =>
      refine ⟨by rw [rowW_1]; omega, ?_⟩
      show rowW M a b _ _ _ a 2 = 1
      rw [rowW_2]
      exact h2
    | some X =>
      have h3 : M a 1 = X.length ∧ sl (M b) 0 X.length = X ∧ M a 2 = 0 := h2
      have ll := sl_len (M c) m.toNat p
      rw [apO_fit (by rw [ll]; omega)]
      refine ⟨by rw [rowW_1]; omega, ?_, ?_, ?_⟩
      · rw [rowW_1, List.length_append, ll, h3.1]
        omega
      · rw [rowW_b hab, List.length_append, ll, sl_add]
        have e1 : sl (cpf (M c) (M b) p (M a 1) m) 0 X.length = X := by
          rw [← h3.2.1]
          rw [sl_len]
          refine sl_congr _ 0 0 (fun i hi => ?_)
          unfold cpf
          rw [if_neg (by omega)]
        have e2 : sl (cpf (M c) (M b) p (M a 1) m) (0 + (X.length : Int)) m.toNat = sl (M c) p m.toNat := by
          refine sl_congr _ _ _ (fun i hi => ?_)
          unfold cpf
          rw [if_pos (by omega), show p + (0 + (X.length : Int) + (i : Int) - M a 1) = p + i by omega]
        rw [e1, e2]
      · rw [rowW_2]
        exact h3.2.2
  · obtain ⟨⟨ha, hb⟩, a3, b3, -, -⟩ := hr
    have e : apO n s (sl (M c) p m.toNat) = none := by
      cases s with
      | none => rfl
      | some X =>
        have h3 : M a 1 = X.length := h2.1
        exact apO_not (by rw [sl_len]; omega)
    rw [e] at k
    refine m35 [gr a, gr c, ti p, ti m] ?_
    refine ⟨by omega, fun w => by omega, fun w => ?_⟩
    refine ⟨by omega, fun w => by omega, fun w => ?_⟩
    refine ⟨_, _, hc, ?_⟩
    refine ⟨by omega, fun w => by omega, fun w => ?_⟩
    refine ⟨_, ha, ?_⟩
    refine ⟨_, _, hb, ?_⟩
    refine ⟨_, ha, ?_⟩
    refine ⟨by omega, fun w => by omega, fun w => ?_⟩
    refine ⟨_, ⟨a3, ha, rfl⟩, ?_⟩
    refine ⟨Or.inr rfl, ?_⟩
    refine k _ (fun y y1 y2 => um_ne y1) ⟨?_, ?_⟩
    · rw [um_at, ur_ne (by decide)]
      exact h0
    · show um M a (ur (M a) 2 1) a 2 = 1
      rw [um_at, ur_at]
theorem putTwo_O {x : Int} (hr : rowS sh a b n) (hx : -2147483648 ≤ x ∧ x ≤ 2147483647) (h : rzO M a b n s) (k : ∀ M2 : FM, (∀ y : Nat, y ≠ a → y ≠ b → M2 y = M y) → rzO M2 a b n (apO n s (leL x 2)) → K none (sh, M2, nx, zl)) : fm_Y (d + 2) 113 [.ref a, .int (Int32.ofInt x)] (sh, M, nx, zl) K := by
  refine m113 [gr a, ti x] ?_
  refine ⟨⟨_, hr.1.1⟩, putO_Y hr h (fun M1 f1 h1 => ?_)⟩
  refine ⟨hx, ⟨_, hr.1.1⟩, putO_Y hr h1 (fun M2 f2 h2 => ?_)⟩
  refine k M2 (fun y y1 y2 => (f2 y y1 y2).trans (f1 y y1 y2)) ?_
  rw [apO_app] at h2
  exact h2
theorem putFour_O {x : Int} (hr : rowS sh a b n) (hx : -2147483648 ≤ x ∧ x ≤ 2147483647) (h : rzO M a b n s) (k : ∀ M2 : FM, (∀ y : Nat, y ≠ a → y ≠ b → M2 y = M y) → rzO M2 a b n (apO n s (leL x 4)) → K none (sh, M2, nx, zl)) : fm_Y (d + 2) 62 [.ref a, .int (Int32.ofInt x)] (sh, M, nx, zl) K := by
  refine m62 [gr a, ti x] ?_
  refine ⟨⟨_, hr.1.1⟩, putO_Y hr h (fun M1 f1 h1 => ?_)⟩
  refine ⟨hx, ⟨_, hr.1.1⟩, putO_Y hr h1 (fun M2 f2 h2 => ?_)⟩
  refine ⟨hx, ⟨_, hr.1.1⟩, putO_Y hr h2 (fun M3 f3 h3 => ?_)⟩
  refine ⟨hx, ⟨_, hr.1.1⟩, putO_Y hr h3 (fun M4 f4 h4 => ?_)⟩
  refine k M4 (fun y y1 y2 => (f4 y y1 y2).trans ((f3 y y1 y2).trans ((f2 y y1 y2).trans (f1 y y1 y2)))) ?_
  rw [apO_app, apO_app, apO_app] at h4
  have e : leL x 4 = [x % 256] ++ ([x / 256 % 256] ++ ([x / 65536 % 256] ++ [x / 16777216 % 256])) := by
    show [x % 256, x / 256 % 256, x / 256 / 256 % 256, x / 256 / 256 / 256 % 256] = [x % 256, x / 256 % 256, x / 65536 % 256, x / 16777216 % 256]
    rw [show x / 256 / 256 = x / 65536 by omega, show x / 65536 / 256 = x / 16777216 by omega]
  rw [e]
  exact h4
theorem putEight_O {x : Int} (hr : rowS sh a b n) (hx : -9223372036854775808 ≤ x ∧ x ≤ 9223372036854775807) (h : rzO M a b n s) (k : ∀ M2 : FM, (∀ y : Nat, y ≠ a → y ≠ b → M2 y = M y) → rzO M2 a b n (apO n s (leL x 8)) → K none (sh, M2, nx, zl)) : fm_Y (d + 2) 102 [.ref a, .long (Int64.ofInt x)] (sh, M, nx, zl) K := by
  refine m102 [gr a, tj x] ?_
  have L : ∀ (N i : Nat) (M1 : FM), 8 - i < N → i ≤ 8 → (∀ y : Nat, y ≠ a → y ≠ b → M1 y = M y) → rzO M1 a b n (apO n s (leL x i)) → fm_X (d + 1) kd102 2 [some (gr a), some (tj x), none, some (ti i)] [] (sh, M1, nx, zl) K := by
    intro N
    induction N with
    | zero => intro i M1 hN
              omega
    | succ N ih =>
      intro i M1 hN hi f1 h1
      refine s102_2 (d + 1) K _ _ _ ?_
      refine ⟨by omega, fun w => ?_, fun w => ?_⟩
      · have e : i = 8 := by omega
        rw [e] at h1
        exact k M1 f1 h1
      · refine ⟨⟨by omega, by omega, hx⟩, ⟨_, hr.1.1⟩, putO_Y hr h1 (fun M2 f2 h2 => ?_)⟩
        refine ih (i + 1) M2 (by omega) (by omega) (fun y y1 y2 => (f2 y y1 y2).trans (f1 y y1 y2)) ?_
        rw [apO_app, show ((8 : Int) * (i : Int)).toNat = 8 * i by omega, ← leL_back] at h2
        exact h2
  refine L 9 0 M (by omega) (by omega) (fun _ _ _ => rfl) ?_
  show rzO M a b n (apO n s [])
  rw [rzO_nil h]
  exact h
theorem clear_O (hr : rowS sh a b n) (k : ∀ M2 : FM, (∀ y : Nat, y ≠ a → M2 y = M y) → rzO M2 a b n (some []) → K none (sh, M2, nx, zl)) : fm_Y (d + 1) 38 [.ref a] (sh, M, nx, zl) K := by
  refine clearG_Y hr (fun M2 f2 h1 h2 => k M2 f2 ⟨by omega, ?_, rfl, h2⟩)
  rw [h1]
  rfl
end CROW
