/-! QUERIES: read; the spec and the class -/
def oGt (o : Option (List Int)) : List Int := match o with
  | none => []
  | some l => l
def pbN (g : Int → Int) (p : Int) : Nat → Int
  | 0 => fBg g p
  | k + 1 => pbN g p k + blN g p k % 16777216
/-- a file's byte -/
noncomputable def ctF (f g fg : Int → Int) (B p x : Int) : Int := if x / B < bkC B g p then (if blN g p (x / B) = 0 then 0 else lf (oGt (bdS f B (pbN g p (x / B).toNat) (blN g p (x / B)))) (x % B)) else lf (oGt (bdS f B (s64 (le fg (16 * fFr g p) 8)) (le fg (16 * fFr g p + 8) 4))) (fOf g p + x % B)
/-- how many bytes are read -/
def rdN (z fr m : Int) : Int := max 0 (min m (z - fr))
theorem dvq {x k B : Int} (hB : 0 < B) (h1 : k * B ≤ x) (h2 : x < k * B + B) : x / B = k ∧ x % B = x - k * B := by
  have e : x / B = k := by
    have a1 : x / B * B ≤ x := Int.ediv_mul_le x (by omega)
    have a2 := Int.lt_ediv_add_one_mul_self x hB
    by_cases c : x / B < k
    · have : (x / B + 1) * B ≤ k * B := Int.mul_le_mul_of_nonneg_right (by omega) (by omega)
      omega
    · by_cases c2 : k < x / B
      · have : (k + 1) * B ≤ x / B * B := Int.mul_le_mul_of_nonneg_right (by omega) (by omega)
        rw [Int.add_mul, Int.one_mul] at this
        omega
      · omega
  refine ⟨e, ?_⟩
  have := Int.emod_def x B
  rw [e, Int.mul_comm] at this
  exact this
theorem dv0 {x B : Int} (hB : 0 < B) (hx : 0 ≤ x) : x / B * B ≤ x ∧ x < x / B * B + B ∧ x % B = x - x / B * B ∧ 0 ≤ x / B := by
  have a1 : x / B * B ≤ x := Int.ediv_mul_le x (by omega)
  have a2 := Int.lt_ediv_add_one_mul_self x hB
  rw [Int.add_mul, Int.one_mul] at a2
  have := Int.emod_def x B
  rw [Int.mul_comm] at this
  exact ⟨a1, a2, this, Int.ediv_nonneg hx (by omega)⟩
theorem bw_at {f g : Int → Int} {B A p : Int} : ∀ (m i : Nat), bwP f g B A p m i (pbN g p i) → ∀ q : Nat, i ≤ q → q < i + m → blN g p q ≠ 0 → 96 ≤ pbN g p q ∧ pbN g p q ≤ A - blN g p q % 16777216 ∧ rvO (bdS f B (pbN g p q) (blN g p q)) = bbN B g p q
  | 0, i, _, q, h1, h2, _ => by omega
  | m + 1, i, h, q, h1, h2, h3 => by
    obtain ⟨w1, w2⟩ := h
    by_cases c : q = i
    · rw [c] at h3 ⊢
      exact (w1 h3).1
    · have e : pbN g p (i + 1) = pbN g p i + blN g p i % 16777216 := rfl
      have nx : bwP f g B A p m ((i + 1 : Nat) : Int) (pbN g p (i + 1)) := by
        rw [e, show ((i + 1 : Nat) : Int) = (i : Int) + 1 by omega]
        by_cases c2 : blN g p i = 0
        · rw [c2]
          have := w2 c2
          rw [show pbN g p i + 0 % 16777216 = pbN g p i by omega]
          exact this
        · exact (w1 c2).2
      exact bw_at m (i + 1) nx q (by omega) (by omega) h3
theorem rv_some {o : Option (List Int)} {x : Int} (h : rvO o = x) (h0 : 0 ≤ x) : ∃ l : List Int, o = some l ∧ (l.length : Int) = x := by
  cases o with
  | none =>
    have : (-1 : Int) = x := h
    omega
  | some l => exact ⟨l, rfl, h⟩
section ROWG
variable {d nx zl : Nat} {K : Option TV → FH → Prop} {sh : Nat → Option Shp} {M : FM} {a b na : Nat}
theorem clearG_Y (hr : rowS sh a b na) (k : ∀ M2 : FM, (∀ c : Nat, c ≠ a → M2 c = M c) → M2 a 1 = 0 → M2 a 2 = 0 → K none (sh, M2, nx, zl)) : fm_Y (d + 1) 38 [.ref a] (sh, M, nx, zl) K := by
  have q := clear_Y (d := d) (nx := nx) (sl := zl) (M := M) (f := M b) (s := M a 1) (o := M a 2) (K := K) hr (k _ (fun c hc => ?_) (rowW_1 _ _ _ _ _ _) (rowW_2 _ _ _ _ _ _))
  · rw [rowW_self] at q
    exact q
  · by_cases e : c = b
    · rw [e, rowW_b hr.2.2.2.1]
    · exact rowW_o hc e
theorem putG_Y {c nc : Nat} {p n : Int} (hr : rowS sh a b na) (hc : shp sh c = some (.inl (.byte, nc))) (hnc : nc ≤ 2147483647) (h6 : c ≠ a) (h7 : c ≠ b) (h0 : 0 ≤ M a 1) (hp : 0 ≤ p) (hn : 0 ≤ n) (h1 : p + n ≤ nc) (h2 : M a 1 + n ≤ na) (k : ∀ M2 : FM, (∀ x : Nat, x ≠ a → x ≠ b → M2 x = M x) → M2 a 1 = M a 1 + n → M2 a 2 = M a 2 → (∀ i : Int, 0 ≤ i → i < n → M2 b (M a 1 + i) = M c (p + i)) → (∀ i : Int, i < M a 1 → M2 b i = M b i) → K none (sh, M2, nx, zl)) : fm_Y (d + 1) 35 [.ref a, .ref c, .int (Int32.ofInt p), .int (Int32.ofInt n)] (sh, M, nx, zl) K := by
  refine putAll_M hr hc hnc h6 h7 h0 hp hn h1 h2 ?_
  refine k _ (fun x x1 x2 => rowW_o x1 x2) (rowW_1 _ _ _ _ _ _) (rowW_2 _ _ _ _ _ _) (fun i i0 i1 => ?_) (fun i i0 => ?_)
  · rw [rowW_b hr.2.2.2.1]
    unfold cpf
    rw [if_pos (by omega), show p + (M a 1 + i - M a 1) = p + i by omega]
  · rw [rowW_b hr.2.2.2.1]
    unfold cpf
    rw [if_neg (by omega)]
theorem zerosG_Y {n : Int} (hr : rowS sh a b na) (h0 : 0 ≤ M a 1) (hn : 0 ≤ n) (h2 : M a 1 + n ≤ na) (k : ∀ M2 : FM, (∀ x : Nat, x ≠ a → x ≠ b → M2 x = M x) → M2 a 1 = M a 1 + n → M2 a 2 = M a 2 → (∀ i : Int, 0 ≤ i → i < n → M2 b (M a 1 + i) = 0) → (∀ i : Int, i < M a 1 → M2 b i = M b i) → K none (sh, M2, nx, zl)) : fm_Y (d + 2) 54 [.ref a, .int (Int32.ofInt n)] (sh, M, nx, zl) K := by
  have hz := hr.2.2.2.2
  refine m54 [gr a, ti n] ?_
  have L : ∀ (G : Nat) (i : Int) (M1 : FM), (n - i).toNat < G → 0 ≤ i → i ≤ n → (∀ x : Nat, x ≠ a → x ≠ b → M1 x = M x) → M1 a 1 = M a 1 + i → M1 a 2 = M a 2 → (∀ q : Int, 0 ≤ q → q < i → M1 b (M a 1 + q) = 0) → (∀ q : Int, q < M a 1 → M1 b q = M b q) → fm_X (d + 1) kd54 2 [some (gr a), some (ti n), some (ti i)] [] (sh, M1, nx, zl) K := by
    intro G
    induction G with
    | zero => intro i M1 q; omega
    | succ G ih =>
      intro i M1 q1 q2 q3 F1 s1 o1 z1 b1
      refine s54_2 (d + 1) K _ _ _ ?_
      refine ⟨by omega, fun w => ?_, fun w => ?_⟩
      · have ei : i = n := by omega
        rw [ei] at s1 z1
        exact k M1 F1 s1 o1 z1 b1
      have q := put_R (d := d) (nx := nx) (sl := zl) (M := M1) (f := M1 b) (s := M1 a 1) (o := M1 a 2) (x := 0) (K := fun w h2 => (o_inc 2 1 (fW (d + 1) kd54 K 2) : FC) [some (gr a), some (ti n), some (ti i)] (w.toList ++ []) h2) hr (by omega) (by omega) ?_
      · rw [rowW_self] at q
        exact ⟨⟨_, hr.1.1⟩, q⟩
      · refine ih (i + 1) _ (by omega) (by omega) (by omega) (fun x x1 x2 => (rowW_o x1 x2).trans (F1 x x1 x2)) ?_ ?_ (fun q q0 q1 => ?_) (fun q q0 => ?_)
        · rw [rowW_1, s1]
          omega
        · rw [rowW_2]
          exact o1
        · rw [rowW_b hr.2.2.2.1]
          by_cases c : q = i
          · rw [c, ← s1, ur_at]
            rfl
          · rw [ur_ne (by omega)]
            exact z1 q q0 (by omega)
        · rw [rowW_b hr.2.2.2.1, ur_ne (by omega)]
          exact b1 q q0
  exact L _ 0 M (Nat.lt_succ_self _) (by omega) (by omega) (fun _ _ _ => rfl) (by omega) rfl (fun q q0 q1 => by omega) (fun _ _ => rfl)
end ROWG
section CREAD
variable {d nx zl : Nat} {K : Option TV → FH → Prop} {sh : Nat → Option Shp} {M : FM} {IR IS LR LS : List Int} {B ids F n s A : Int} {pl h f fg : Int → Int} {a b na : Nat}
theorem placeOfBlock_Y {p i : Int} {g : Int → Int} {N : Int} (hI : ndC M g N B) (hp : 0 ≤ p ∧ p + 32 ≤ N) (hT : 1 ≤ le g p 2 ∧ le g p 2 ≤ 14) (hi : 0 ≤ i ∧ p + fxT (le g p 2) + 4 * i ≤ N) (hb : ∀ q : Int, 0 ≤ q → q < i → blN g p q < 2147483648) (k : K (some (ti (pbN g p i.toNat))) (sh, M, nx, zl)) : fm_Y (d + 3) 216 [.ref 97, .int (Int32.ofInt p), .int (Int32.ofInt i)] (sh, M, nx, zl) K := by
  have n65 := hI.1.2.2.2
  have fr := fxT_r (le g p 2)
  refine m216 [fx 97, ti p, ti i] ?_
  refine fileBegin_Y hI hp hT (fun _ => ?_)
  have L : ∀ (G m : Nat) (q : Int), (i - q).toNat < G → q = m → q ≤ i → fm_X (d + 2) kd216 13 [some (fx 97), some (ti p), some (ti i), some (ti (pbN g p m)), some (ti q)] [] (sh, M, nx, zl) K := by
    intro G
    induction G with
    | zero => intro m q q1; omega
    | succ G ih =>
      intro m q q1 q2 q3
      refine s216_13 (d + 2) K _ _ _ ?_
      refine ⟨by omega, fun w => ?_, fun w => ?_⟩
      · rw [show i.toNat = m by omega] at k
        exact k
      have en : blN g p q = le g (p + fxT (le g p 2) + 4 * q) 4 := rfl
      refine blockNumber_Y hI (by omega) hT (by omega) (fun x x1 x2 x3 => ?_)
      rw [← en] at x1 x3
      have hq := hb q (by omega) (by omega)
      have ex : x = blN g p q := by omega
      have T := ih (m + 1) (q + 1) (by omega) (by omega) (by omega)
      have e : pbN g p (m + 1) = pbN g p m + blN g p m % 16777216 := rfl
      rw [e, ← q2, ← ex] at T
      exact T
  exact L _ 0 0 (Nat.lt_succ_self _) rfl (by omega)
end CREAD
