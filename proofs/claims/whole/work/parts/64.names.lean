/-! CONTRACTS: names: their order, and what is one -/
theorem ordL_r : ∀ a b : List Int, (∀ x ∈ a, 0 ≤ x ∧ x < 256) → (∀ x ∈ b, 0 ≤ x ∧ x < 256) → -(b.length : Int) - 255 ≤ ordL a b ∧ ordL a b ≤ (a.length : Int) + 255
  | [], s, _, _ => by
    show -(s.length : Int) - 255 ≤ - (s.length : Int) ∧ - (s.length : Int) ≤ ((0 : Nat) : Int) + 255
    omega
  | x :: r, [], _, _ => by
    rw [ordL_nil]
    simp only [List.length_cons, List.length_nil]
    omega
  | x :: r, y :: s, h1, h2 => by
    have ih := ordL_r r s (fun z hz => h1 z (List.mem_cons_of_mem _ hz)) (fun z hz => h2 z (List.mem_cons_of_mem _ hz))
    have a1 := h1 x List.mem_cons_self
    have a2 := h2 y List.mem_cons_self
    show _ ≤ (if x = y then ordL r s else x - y) ∧ (if x = y then ordL r s else x - y) ≤ _
    simp only [List.length_cons]
    split <;> omega
theorem ordL_sl (f g : Int → Int) (p q : Int) (n m : Nat) : -(m : Int) - 255 ≤ ordL (sl f p n) (sl g q m) ∧ ordL (sl f p n) (sl g q m) ≤ (n : Int) + 255 := by
  have e := ordL_r (sl f p n) (sl g q m) (fun x hx => sl_rng n p x hx) (fun x hx => sl_rng m q x hx)
  rw [sl_len, sl_len] at e
  exact e
section NAMES
variable {d nx zl a b na nb : Nat} {K : Option TV → FH → Prop} {sh : Nat → Option Shp} {M : FM} {p q : Int} {n m : Nat}
/-- the class's order -/
theorem order_Y (ha : shp sh a = some (.inl (.byte, na))) (hb : shp sh b = some (.inl (.byte, nb))) (hna : na ≤ 2147483647) (hnb : nb ≤ 2147483647) (hp : 0 ≤ p) (hq : 0 ≤ q) (h1 : p + n ≤ na) (h2 : q + m ≤ nb) (k : K (some (ti (ordL (sl (M a) p n) (sl (M b) q m)))) (sh, M, nx, zl)) : fm_Y (d + 1) 32 [.ref a, .int (Int32.ofInt p), .int (Int32.ofInt n), .ref b, .int (Int32.ofInt q), .int (Int32.ofInt m)] (sh, M, nx, zl) K := by
  refine m32 [gr a, ti p, ti n, gr b, ti q, ti m] ?_
  refine ⟨by omega, ?_⟩
  have L : ∀ (F i : Nat) (y8 : Option TV), n ≤ F + i → i ≤ n → i ≤ m → ordL (sl (M a) p n) (sl (M b) q m) = ordS (M a) (M b) p q n m F i → fm_X d kd32 11 [some (gr a), some (ti p), some (ti n), some (gr b), some (ti q), some (ti m), some (ti (min (n : Int) m)), some (ti i), y8] [] (sh, M, nx, zl) K := by
    intro F
    induction F with
    | zero =>
      intro i y8 hF hi hm he
      refine s32_11 d K _ _ _ ?_
      refine ⟨by omega, fun w => ?_, fun w => by omega⟩
      rw [he] at k
      exact k
    | succ F ih =>
      intro i y8 hF hi hm he
      have he2 : ordS (M a) (M b) p q n m (F + 1) i = if (i : Int) < n ∧ (i : Int) < m then (if M a (p + i) % 256 - M b (q + i) % 256 = 0 then ordS (M a) (M b) p q n m F (i + 1) else M a (p + i) % 256 - M b (q + i) % 256) else (n : Int) - m := rfl
      rw [he2] at he
      refine s32_11 d K _ _ _ ?_
      refine ⟨by omega, fun w => ?_, fun w => ?_⟩
      · rw [if_neg (by omega)] at he
        rw [he] at k
        exact k
      rw [if_pos (by omega)] at he
      refine ⟨na, ha, by omega, ?_⟩
      refine ⟨nb, hb, by omega, ?_⟩
      refine ⟨by omega, fun w2 => ?_, fun w2 => ?_⟩
      · rw [if_pos w2] at he
        have z := ih (i + 1) (some (ti (M a (p + i) % 256 - M b (q + i) % 256))) (by omega) (by omega) (by omega) he
        exact z
      · rw [if_neg w2] at he
        rw [he] at k
        exact k
  have e := ordS_ok (f := M a) (g := M b) (a := p) (b := q) n n m 0 (by omega) (by omega) (by omega)
  simp only [Int.natCast_zero, Int.add_zero, Nat.sub_zero] at e
  exact L n 0 none (by omega) (by omega) (by omega) e.symm
/-- the reference's -/
theorem morder_Y (ha : shp sh a = some (.inl (.byte, na))) (hb : shp sh b = some (.inl (.byte, nb))) (hna : na ≤ 2147483647) (hnb : nb ≤ 2147483647) (hp : 0 ≤ p) (hq : 0 ≤ q) (h1 : p + n ≤ na) (h2 : q + m ≤ nb) (k : K (some (ti (ordL (sl (M a) p n) (sl (M b) q m)))) (sh, M, nx, zl)) : fm_Y (d + 1) 250 [.ref a, .int (Int32.ofInt p), .int (Int32.ofInt n), .ref b, .int (Int32.ofInt q), .int (Int32.ofInt m)] (sh, M, nx, zl) K := by
  refine m250 [gr a, ti p, ti n, gr b, ti q, ti m] ?_
  have L : ∀ (F i : Nat) (y8 : Option TV), n ≤ F + i → i ≤ n → i ≤ m → ordL (sl (M a) p n) (sl (M b) q m) = ordS (M a) (M b) p q n m F i → fm_X d kd250 3 [some (gr a), some (ti p), some (ti n), some (gr b), some (ti q), some (ti m), some (ti i), y8] [] (sh, M, nx, zl) K := by
    intro F
    induction F with
    | zero =>
      intro i y8 hF hi hm he
      refine s250_3 d K _ _ _ ?_
      refine ⟨by omega, fun w => ?_, fun w => by omega⟩
      rw [he] at k
      exact k
    | succ F ih =>
      intro i y8 hF hi hm he
      have he2 : ordS (M a) (M b) p q n m (F + 1) i = if (i : Int) < n ∧ (i : Int) < m then (if M a (p + i) % 256 - M b (q + i) % 256 = 0 then ordS (M a) (M b) p q n m F (i + 1) else M a (p + i) % 256 - M b (q + i) % 256) else (n : Int) - m := rfl
      rw [he2] at he
      refine s250_3 d K _ _ _ ?_
      refine ⟨by omega, fun w => ?_, fun w => ?_⟩
      · rw [if_neg (by omega)] at he
        rw [he] at k
        exact k
      refine ⟨by omega, fun w => ?_, fun w => ?_⟩
      · rw [if_neg (by omega)] at he
        rw [he] at k
        exact k
      rw [if_pos (by omega)] at he
      refine ⟨na, ha, by omega, ?_⟩
      refine ⟨nb, hb, by omega, ?_⟩
      refine ⟨by omega, fun w2 => ?_, fun w2 => ?_⟩
      · rw [if_pos w2] at he
        have z := ih (i + 1) (some (ti (M a (p + i) % 256 - M b (q + i) % 256))) (by omega) (by omega) (by omega) he
        exact z
      · rw [if_neg w2] at he
        rw [he] at k
        exact k
  have e := ordS_ok (f := M a) (g := M b) (a := p) (b := q) n n m 0 (by omega) (by omega) (by omega)
  simp only [Int.natCast_zero, Int.add_zero, Nat.sub_zero] at e
  exact L n 0 none (by omega) (by omega) (by omega) e.symm
/-- the same, lengths as numbers -/
theorem order_I {n m : Int} (ha : shp sh a = some (.inl (.byte, na))) (hb : shp sh b = some (.inl (.byte, nb))) (hna : na ≤ 2147483647) (hnb : nb ≤ 2147483647) (hp : 0 ≤ p) (hq : 0 ≤ q) (hn : 0 ≤ n) (hm : 0 ≤ m) (h1 : p + n ≤ na) (h2 : q + m ≤ nb) (k : K (some (ti (ordL (sl (M a) p n.toNat) (sl (M b) q m.toNat)))) (sh, M, nx, zl)) : fm_Y (d + 1) 32 [.ref a, .int (Int32.ofInt p), .int (Int32.ofInt n), .ref b, .int (Int32.ofInt q), .int (Int32.ofInt m)] (sh, M, nx, zl) K := by
  obtain ⟨n2, rfl⟩ := Int.eq_ofNat_of_zero_le hn
  obtain ⟨m2, rfl⟩ := Int.eq_ofNat_of_zero_le hm
  rw [Int.toNat_natCast, Int.toNat_natCast] at k
  exact order_Y ha hb hna hnb hp hq h1 h2 k
theorem morder_I {n m : Int} (ha : shp sh a = some (.inl (.byte, na))) (hb : shp sh b = some (.inl (.byte, nb))) (hna : na ≤ 2147483647) (hnb : nb ≤ 2147483647) (hp : 0 ≤ p) (hq : 0 ≤ q) (hn : 0 ≤ n) (hm : 0 ≤ m) (h1 : p + n ≤ na) (h2 : q + m ≤ nb) (k : K (some (ti (ordL (sl (M a) p n.toNat) (sl (M b) q m.toNat)))) (sh, M, nx, zl)) : fm_Y (d + 1) 250 [.ref a, .int (Int32.ofInt p), .int (Int32.ofInt n), .ref b, .int (Int32.ofInt q), .int (Int32.ofInt m)] (sh, M, nx, zl) K := by
  obtain ⟨n2, rfl⟩ := Int.eq_ofNat_of_zero_le hn
  obtain ⟨m2, rfl⟩ := Int.eq_ofNat_of_zero_le hm
  rw [Int.toNat_natCast, Int.toNat_natCast] at k
  exact morder_Y ha hb hna hnb hp hq h1 h2 k
/-- n bytes from p on are a name -/
def nmF (f : Int → Int) (p n : Int) : Prop := (1 ≤ n ∧ n ≤ 256) ∧ (∀ i : Int, 0 ≤ i → i < n → f (p + i) % 256 ≠ 0 ∧ f (p + i) % 256 ≠ 47) ∧ ¬ (n = 1 ∧ f p % 256 = 46) ∧ ¬ (n = 2 ∧ f p % 256 = 46 ∧ f (p + 1) % 256 = 46)
theorem nmF_congr {f g : Int → Int} {p q n : Int} (h : ∀ i : Int, 0 ≤ i → i < n → f (p + i) % 256 = g (q + i) % 256) (e : nmF f p n) : nmF g q n := by
  obtain ⟨e1, e2, e3, e4⟩ := e
  have h0 := h 0 (by omega) (by omega)
  simp only [Int.add_zero] at h0
  refine ⟨e1, fun i h1 h2 => ?_, ?_, ?_⟩
  · rw [← h i h1 h2]
    exact e2 i h1 h2
  · rw [← h0]
    exact e3
  · intro z
    obtain ⟨z1, z2, z3⟩ := z
    have h1 := h 1 (by omega) (by omega)
    exact e4 ⟨z1, by omega, by omega⟩
variable {n : Int}
theorem isParent_Y (ha : shp sh a = some (.inl (.byte, na))) (hna : na ≤ 2147483647) (hn : -2147483648 ≤ n ∧ n ≤ 2147483647) (hp : 0 ≤ p) (h1 : p + n ≤ na) (k1 : (n = 2 ∧ M a p % 256 = 46 ∧ M a (p + 1) % 256 = 46) → K (some (ti 1)) (sh, M, nx, zl)) (k0 : ¬ (n = 2 ∧ M a p % 256 = 46 ∧ M a (p + 1) % 256 = 46) → K (some (ti 0)) (sh, M, nx, zl)) : fm_Y (d + 1) 30 [.ref a, .int (Int32.ofInt p), .int (Int32.ofInt n)] (sh, M, nx, zl) K := by
  refine m30 [gr a, ti p, ti n] ?_
  refine ⟨by omega, fun w => ⟨Or.inl rfl, k0 (by omega)⟩, fun w => ?_⟩
  refine ⟨na, ha, by omega, ?_⟩
  refine ⟨by omega, fun w => ⟨Or.inl rfl, k0 (by omega)⟩, fun w => ?_⟩
  refine ⟨na, ha, by omega, ?_⟩
  exact ⟨by omega, fun w => ⟨Or.inl rfl, k0 (by omega)⟩, fun w => ⟨Or.inr rfl, k1 (by omega)⟩⟩
theorem isDots_Y (ha : shp sh a = some (.inl (.byte, na))) (hna : na ≤ 2147483647) (hn : -2147483648 ≤ n ∧ n ≤ 2147483647) (hp : 0 ≤ p) (h1 : p + n ≤ na) (k1 : (n = 1 ∧ M a p % 256 = 46 ∨ n = 2 ∧ M a p % 256 = 46 ∧ M a (p + 1) % 256 = 46) → K (some (ti 1)) (sh, M, nx, zl)) (k0 : ¬ (n = 1 ∧ M a p % 256 = 46 ∨ n = 2 ∧ M a p % 256 = 46 ∧ M a (p + 1) % 256 = 46) → K (some (ti 0)) (sh, M, nx, zl)) : fm_Y (d + 2) 29 [.ref a, .int (Int32.ofInt p), .int (Int32.ofInt n)] (sh, M, nx, zl) K := by
  refine m29 [gr a, ti p, ti n] ?_
  have T : ¬ (n = 1 ∧ M a p % 256 = 46) → b29_13 (d + 1) (fW (d + 1) kd29 K) K [some (gr a), some (ti p), some (ti n)] [] (sh, M, nx, zl) := by
    intro hh
    refine isParent_Y ha hna hn hp h1 (fun w => ?_) (fun w => ?_)
    · exact ⟨by omega, fun z => by omega, fun z => ⟨Or.inr rfl, k1 (Or.inr w)⟩⟩
    · exact ⟨by omega, fun z => ⟨Or.inl rfl, k0 (by omega)⟩, fun z => by omega⟩
  refine ⟨by omega, fun w => T (by omega), fun w => ?_⟩
  refine ⟨na, ha, by omega, ?_⟩
  exact ⟨by omega, fun w => ⟨Or.inr rfl, k1 (by omega)⟩, fun w => T (by omega)⟩
theorem isName_Y (ha : shp sh a = some (.inl (.byte, na))) (hna : na ≤ 2147483647) (hn : -2147483648 ≤ n ∧ n ≤ 2147483647) (hp : 0 ≤ p) (h1 : p + n ≤ na) (k1 : nmF (M a) p n → K (some (ti 1)) (sh, M, nx, zl)) (k0 : ¬ nmF (M a) p n → K (some (ti 0)) (sh, M, nx, zl)) : fm_Y (d + 3) 28 [.ref a, .int (Int32.ofInt p), .int (Int32.ofInt n)] (sh, M, nx, zl) K := by
  refine m28 [gr a, ti p, ti n] ?_
  refine ⟨by omega, fun w => ⟨Or.inl rfl, k0 (fun z => by have := z.1; omega)⟩, fun w => ?_⟩
  refine ⟨by omega, fun w => ⟨Or.inl rfl, k0 (fun z => by have := z.1; omega)⟩, fun w => ?_⟩
  refine isDots_Y ha hna hn hp h1 (fun z => ?_) (fun z => ?_)
  · refine ⟨by omega, fun y => by omega, fun y => ⟨Or.inl rfl, k0 (fun u => ?_)⟩⟩
    obtain ⟨u1, u2, u3, u4⟩ := u
    rcases z with z | z
    · exact u3 z
    · exact u4 z
  · refine ⟨by omega, fun y => ?_, fun y => by omega⟩
    have L : ∀ (N : Nat) (i : Int), n - i < N → 0 ≤ i → i ≤ n → (∀ j : Int, 0 ≤ j → j < i → M a (p + j) % 256 ≠ 0 ∧ M a (p + j) % 256 ≠ 47) → fm_X (d + 2) kd28 25 [some (gr a), some (ti p), some (ti n), some (ti i)] [] (sh, M, nx, zl) K := by
      intro N
      induction N with
      | zero => intro i h1 h2; omega
      | succ N ih =>
        intro i h2 h3 h4 h5
        refine s28_25 (d + 2) K _ _ _ ?_
        refine ⟨by omega, fun v => ⟨Or.inr rfl, k1 ⟨by omega, fun j hj1 hj2 => h5 j hj1 (by omega), fun q => z (Or.inl q), fun q => z (Or.inr q)⟩⟩, fun v => ?_⟩
        refine ⟨na, ha, by omega, ?_⟩
        refine ⟨by omega, fun v => ⟨Or.inl rfl, k0 (fun u => absurd (u.2.1 i h3 (by omega)).1 (by omega))⟩, fun v => ?_⟩
        refine ⟨na, ha, by omega, ?_⟩
        refine ⟨by omega, fun v2 => ?_, fun v2 => ⟨Or.inl rfl, k0 (fun u => absurd (u.2.1 i h3 (by omega)).2 (by omega))⟩⟩
        refine ih (i + 1) (by omega) (by omega) (by omega) (fun j hj1 hj2 => ?_)
        by_cases e : j = i
        · subst e
          exact ⟨by omega, by omega⟩
        · exact h5 j hj1 (by omega)
    exact L (n.toNat + 1) 0 (by omega) (by omega) (by omega) (fun j hj1 hj2 => by omega)
/-- a name as far as x -/
def nmI (f : Int → Int) (p n x : Int) : Prop := (1 ≤ n ∧ n ≤ 256) ∧ ¬ (n = 1 ∧ f p % 256 = 46) ∧ ¬ (n = 2 ∧ f p % 256 = 46 ∧ f (p + 1) % 256 = 46) ∧ (∀ j : Int, p ≤ j → j < x → f j % 256 ≠ 0 ∧ f j % 256 ≠ 47)
theorem nmI_end {f : Int → Int} {p n x : Int} (h : nmI f p n x) (hx : p + n ≤ x) : nmF f p n := ⟨h.1, fun j hj1 hj2 => h.2.2.2 (p + j) (by omega) (by omega), h.2.1, h.2.2.1⟩
theorem nmI_step {f : Int → Int} {p n x : Int} (h : nmI f p n x) (h1 : f x % 256 ≠ 0) (h2 : f x % 256 ≠ 47) : nmI f p n (x + 1) := by
  refine ⟨h.1, h.2.1, h.2.2.1, fun j hj1 hj2 => ?_⟩
  by_cases e : j = x
  · subst e
    exact ⟨h1, h2⟩
  · exact h.2.2.2 j hj1 (by omega)
theorem nmF_no {f : Int → Int} {p n x : Int} (h1 : p ≤ x) (h2 : x < p + n) (hh : ¬ (f x % 256 ≠ 0 ∧ f x % 256 ≠ 47)) : ¬ nmF f p n := fun u => hh (by
  have e := u.2.1 (x - p) (by omega) (by omega)
  rw [show p + (x - p) = x by omega] at e
  exact e)
theorem misName_Y (ha : shp sh a = some (.inl (.byte, na))) (hna : na ≤ 2147483647) (hn : -2147483648 ≤ n ∧ n ≤ 2147483647) (hp : 0 ≤ p) (hp2 : p ≤ na) (h1 : p + n ≤ na) (h2 : -2147483648 ≤ p + n) (k1 : nmF (M a) p n → K (some (ti 1)) (sh, M, nx, zl)) (k0 : ¬ nmF (M a) p n → K (some (ti 0)) (sh, M, nx, zl)) : fm_Y (d + 1) 247 [.ref a, .int (Int32.ofInt p), .int (Int32.ofInt n)] (sh, M, nx, zl) K := by
  refine m247 [gr a, ti p, ti n] ?_
  have L : ∀ (N : Nat) (x g y3 : Int), (p + n - x).toNat < N → p ≤ x → x ≤ 2147483647 → (g = 0 ∨ g = 1) → (g = 0 → ¬ nmF (M a) p n) → (g = 1 → nmI (M a) p n x) → fm_X d kd247 60 [some (gr a), some (ti p), some (ti n), some (ti y3), some (ti g), some (ti x)] [] (sh, M, nx, zl) K := by
    intro N
    induction N with
    | zero => intro x g y3 h1; omega
    | succ N ih =>
      intro x g y3 h3 h4 hx h5 h6 h7
      refine s247_60 d K _ _ _ ?_
      have hg : -2147483648 ≤ g ∧ g ≤ 2147483647 := by omega
      have E : p + n ≤ x ∨ g = 0 → K (some (ti g)) (sh, M, nx, zl) := by
        intro hh
        rcases h5 with e | e
        · rw [e]
          exact k0 (h6 e)
        · rw [e]
          exact k1 (nmI_end (h7 e) (by omega))
      refine ⟨by omega, fun v => ⟨h5, E (Or.inl v)⟩, fun v => ?_⟩
      refine ⟨hg, fun v2 => ⟨h5, E (Or.inr v2)⟩, fun v2 => ?_⟩
      have hI := h7 (by omega)
      clear E h5 h6 h7
      have C0 : ¬ (M a x % 256 ≠ 0 ∧ M a x % 256 ≠ 47) → fm_X d kd247 60 [some (gr a), some (ti p), some (ti n), some (ti y3), some (ti 0), some (ti (x + 1))] [] (sh, M, nx, zl) K := fun hh => ih (x + 1) 0 y3 (by omega) (by omega) (by omega) (Or.inl rfl) (fun _ => nmF_no h4 v hh) (fun e => by omega)
      refine ⟨na, ha, by omega, ?_⟩
      refine ⟨by omega, fun v3 => C0 (by omega), fun v3 => ?_⟩
      refine ⟨na, ha, by omega, ?_⟩
      refine ⟨by omega, fun v4 => C0 (by omega), fun v4 => ?_⟩
      exact ih (x + 1) 1 y3 (by omega) (by omega) (by omega) (Or.inr rfl) (fun e => by omega) (fun _ => nmI_step hI (by omega) (by omega))
  have S : ∀ g3 : Int, (g3 = 0 ∨ g3 = 1) → (g3 = 1 ↔ (n = 1 ∧ M a p % 256 = 46) ∨ (n = 2 ∧ M a p % 256 = 46 ∧ M a (p + 1) % 256 = 46)) → b247_34 d (fW d kd247 K) K [some (gr a), some (ti p), some (ti n), none, none, none] [ti g3] (sh, M, nx, zl) := by
    intro g3 hg hi
    have F0 : ¬ nmF (M a) p n → fm_X d kd247 60 [some (gr a), some (ti p), some (ti n), some (ti g3), some (ti 0), some (ti p)] [] (sh, M, nx, zl) K := fun hh => L (n.toNat + 1) p 0 g3 (by omega) (by omega) (by omega) (Or.inl rfl) (fun _ => hh) (fun e => by omega)
    refine ⟨by omega, fun w => F0 (fun u => by have := u.1; omega), fun w => ?_⟩
    refine ⟨by omega, fun w => F0 (fun u => by have := u.1; omega), fun w => ?_⟩
    refine ⟨by omega, fun w => F0 (fun u => ?_), fun w => ?_⟩
    · have e := hi.1 (by omega)
      rcases e with e | e
      · exact u.2.2.1 e
      · exact u.2.2.2 e
    · have e : ¬ ((n = 1 ∧ M a p % 256 = 46) ∨ (n = 2 ∧ M a p % 256 = 46 ∧ M a (p + 1) % 256 = 46)) := fun u => by have := hi.2 u; omega
      exact L (n.toNat + 1) p 1 g3 (by omega) (by omega) (by omega) (Or.inr rfl) (fun e => by omega) (fun _ => ⟨by omega, fun u => e (Or.inl u), fun u => e (Or.inr u), fun j hj1 hj2 => by omega⟩)
  refine ⟨by omega, fun w => S 0 (Or.inl rfl) (by omega), fun w => ?_⟩
  refine ⟨by omega, fun w => S 0 (Or.inl rfl) (by omega), fun w => ?_⟩
  refine ⟨na, ha, by omega, ?_⟩
  refine ⟨by omega, fun w => S 0 (Or.inl rfl) (by omega), fun w => ?_⟩
  refine ⟨na, ha, by omega, ?_⟩
  have hn12 : n = 1 ∨ n = 2 := by omega
  rcases hn12 with rfl | rfl
  · rw [show p + 1 - 1 = p by omega]
    exact ⟨by omega, fun w => S 0 (Or.inl rfl) (by omega), fun w => S 1 (Or.inr rfl) (by omega)⟩
  · rw [show p + 2 - 1 = p + 1 by omega]
    exact ⟨by omega, fun w => S 0 (Or.inl rfl) (by omega), fun w => S 1 (Or.inr rfl) (by omega)⟩
end NAMES
