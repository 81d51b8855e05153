/-! CONTRACTS: looking things up in the tree -/
section SEEK
variable {d nx zl : Nat} {K : Option TV → FH → Prop} {sh : Nat → Option Shp} {M : FM} {F n : Int}
theorem twC_r {M : FM} (hW : twR M) (j : Int) (h0 : 0 ≤ j) (h1 : j < M 168 5) : 0 ≤ M 177 j ∧ M 177 j ≤ 2000 := by
  have e := (hW.2.2.2.2.2.2 j h0 h1).1
  have e2 := cnt_nn (M 184) j (M 168 20).toNat
  have e3 := hW.2.2.2.1.1
  omega
/-- the reference: is there such a node -/
theorem misNode_Y {i : Int} (hW : twR M) (hi : -2147483648 ≤ i ∧ i ≤ 2147483647) (k1 : 0 ≤ i → i < M 168 5 → live M i → K (some (ti 1)) (sh, M, nx, zl)) (k0 : ¬ (0 ≤ i ∧ i < M 168 5 ∧ live M i) → K (some (ti 0)) (sh, M, nx, zl)) : fm_Y (d + 1) 248 [.ref 168, .int (Int32.ofInt i)] (sh, M, nx, zl) K := by
  obtain ⟨n1, n2, n3⟩ := hW.1.1
  refine m248 [fx 168, ti i] ?_
  refine ⟨hi, fun w => ⟨Or.inl rfl, k0 (fun z => by omega)⟩, fun w => ?_⟩
  refine ⟨by omega, fun w2 => ⟨Or.inl rfl, k0 (fun z => by omega)⟩, fun w2 => ?_⟩
  refine ⟨hi, fun w3 => ⟨Or.inr rfl, k1 w w2 (Or.inl w3)⟩, fun w3 => ?_⟩
  refine ⟨by omega, ?_⟩
  have hr := twC_r hW i w w2
  refine ⟨by omega, fun w4 => ⟨Or.inl rfl, k0 (fun z => ?_)⟩, fun w4 => ⟨Or.inr rfl, k1 w w2 (Or.inr w4)⟩⟩
  rcases z.2.2 with z | z <;> omega
theorem mplaceOf_Y (hW : twR M) (hF : -2147483648 ≤ F ∧ F ≤ 2147483647) (hn0 : 0 ≤ n) (hn : n ≤ 16384) (k : ∀ p, isLB M p F (sl (M 169) 0 n.toNat) → K (some (ti p)) (sh, M, nx, zl)) : fm_Y (d + 2) 249 [.ref 168, .int (Int32.ofInt F), .int (Int32.ofInt n)] (sh, M, nx, zl) K := by
  refine m249 [fx 168, ti F, ti n] ?_
  have hN := hW.1.1
  obtain ⟨⟨e1, e2, e3, e4⟩, eE⟩ := hW.2.2.2.1
  have hO := hW.2.2.2.2.1
  have L : ∀ (N : Nat) (e : Int), (M 168 20 - e).toNat < N → 0 ≤ e → e ≤ M 168 20 → (∀ j : Int, 0 ≤ j → j < e → ltK M j F (sl (M 169) 0 n.toNat)) → fm_X (d + 1) kd249 2 [some (fx 168), some (ti F), some (ti n), some (ti e)] [] (sh, M, nx, zl) K := by
    intro N
    induction N with
    | zero => intro e h1; omega
    | succ N ih =>
      intro e h1 h2 h3 h4
      have X : ¬ ltK M e F (sl (M 169) 0 n.toNat) ∨ e = M 168 20 → K (some (ti e)) (sh, M, nx, zl) := by
        intro hh
        refine k e ⟨⟨h2, h3⟩, h4, fun j hj1 hj2 hj3 => ?_⟩
        rcases hh with hh | hh
        · exact hh (ltK_mono hO h2 hj1 hj2 hj3)
        · omega
      refine s249_2 (d + 1) K _ _ _ ?_
      refine ⟨by omega, fun w => X (Or.inr (by omega)), fun w => ?_⟩
      obtain ⟨⟨f1, f2, -, -⟩, -, ⟨f3, f4, f5, f6⟩, -⟩ := eE e h2 w
      have NX : ltK M e F (sl (M 169) 0 n.toNat) → fm_X (d + 1) kd249 2 [some (fx 168), some (ti F), some (ti n), some (ti (e + 1))] [] (sh, M, nx, zl) K := by
        intro hh
        refine ih (e + 1) (by omega) (by omega) (by omega) (fun j hj1 hj2 => ?_)
        by_cases q : j = e
        · rw [q]
          exact hh
        · exact h4 j hj1 (by omega)
      refine ⟨by omega, ?_⟩
      refine ⟨by omega, fun w2 => NX (Or.inl w2), fun w2 => ?_⟩
      refine ⟨by omega, ?_⟩
      refine ⟨by omega, fun w3 => X (Or.inl (fun z => by rcases z with z | z <;> omega)), fun w3 => ?_⟩
      refine ⟨by omega, ?_⟩
      refine ⟨by omega, ?_⟩
      refine morder_I (a := 187) (b := 169) (na := 32768) (nb := 16384) rfl rfl (by omega) (by omega) (by omega) (by omega) (by omega) (by omega) (by omega) (by omega) ?_
      have hr : -2147483648 ≤ ordL (nmL M e) (sl (M 169) 0 n.toNat) ∧ ordL (nmL M e) (sl (M 169) 0 n.toNat) ≤ 2147483647 := by
        have := ordL_sl (M 187) (M 169) (M 185 e) 0 (M 186 e).toNat n.toNat
        unfold nmL
        omega
      refine ⟨hr, fun w4 => X (Or.inl (fun z => ?_)), fun w4 => NX (Or.inr ⟨by omega, w4⟩)⟩
      rcases z with z | z
      · omega
      · exact absurd z.2 (by unfold nmL; omega)
  exact L (2001) 0 (by omega) (by omega) (by omega) (fun j hj1 hj2 => by omega)
theorem misThere_Y {p : Int} (hW : twR M) (hF : -2147483648 ≤ F ∧ F ≤ 2147483647) (hp : 0 ≤ p ∧ p ≤ M 168 20) (hn0 : 0 ≤ n) (hn : n ≤ 16384) (k1 : p < M 168 20 → M 183 p = F → nmL M p = sl (M 169) 0 n.toNat → K (some (ti 1)) (sh, M, nx, zl)) (k0 : ¬ (p < M 168 20 ∧ M 183 p = F ∧ nmL M p = sl (M 169) 0 n.toNat) → K (some (ti 0)) (sh, M, nx, zl)) : fm_Y (d + 2) 251 [.ref 168, .int (Int32.ofInt p), .int (Int32.ofInt F), .int (Int32.ofInt n)] (sh, M, nx, zl) K := by
  refine m251 [fx 168, ti p, ti F, ti n] ?_
  have hN := hW.1.1
  obtain ⟨⟨e1, e2, e3, e4⟩, eE⟩ := hW.2.2.2.1
  refine ⟨by omega, fun w => ⟨Or.inl rfl, k0 (fun z => by omega)⟩, fun w => ?_⟩
  obtain ⟨⟨f1, f2, -, -⟩, -, ⟨f3, f4, f5, f6⟩, -⟩ := eE p hp.1 w
  refine ⟨by omega, ?_⟩
  refine ⟨by omega, fun w2 => ⟨Or.inl rfl, k0 (fun z => w2 z.2.1)⟩, fun w2 => ?_⟩
  refine ⟨by omega, ?_⟩
  refine ⟨by omega, ?_⟩
  refine morder_I (a := 187) (b := 169) (na := 32768) (nb := 16384) rfl rfl (by omega) (by omega) (by omega) (by omega) (by omega) (by omega) (by omega) (by omega) ?_
  have hr := ordL_sl (M 187) (M 169) (M 185 p) 0 (M 186 p).toNat n.toNat
  refine ⟨by omega, fun w3 => ⟨Or.inl rfl, k0 (fun z => w3 ((ordL_eq _ _).2 z.2.2))⟩, fun w3 => ⟨Or.inr rfl, k1 w w2 ((ordL_eq _ _).1 w3)⟩⟩
/-- the class: the node of a number, or none -/
theorem node_Y {i : Int} (hT : treeR sh M) (hi : -2147483648 ≤ i ∧ i ≤ 2147483647) (k1 : ∀ a : Nat, 0 ≤ i → i < M 168 5 → live M i → M 11 i = a → ndR sh M i a → K (some (gr a)) (sh, M, nx, zl)) (k0 : ¬ (0 ≤ i ∧ i < M 168 5 ∧ live M i) → K (some nl) (sh, M, nx, zl)) : fm_Y (d + 1) 26 [.ref 8, .int (Int32.ofInt i)] (sh, M, nx, zl) K := by
  refine m26 [fx 8, ti i] ?_
  have hN := hT.1.1.1
  obtain ⟨hA, -, -, -, -⟩ := hT.2.1
  refine ⟨hi, fun w => k0 (fun z => by omega), fun w => ?_⟩
  refine ⟨by omega, fun w2 => ?_, fun w2 => k0 (fun z => by omega)⟩
  have q := hT.2.2.1 i w (by omega)
  refine ⟨by omega, fun m hm => ?_, fun hm => ?_⟩
  · by_cases hl : live M i
    · obtain ⟨a, ha, hr⟩ := q.1 hl
      have e : a = m := by omega
      subst e
      exact k1 a w (by omega) hl ha hr
    · have := q.2 hl
      omega
  · by_cases hl : live M i
    · obtain ⟨a, ha, hr⟩ := q.1 hl
      omega
    · exact k0 (fun z => hl z.2.2)
theorem seek_Y {af t tb tn : Nat} {h9 t9 : Option Nat} (hT : treeR sh M) (ht : rowS sh t tb tn) (hn0 : 0 ≤ n) (hn : n ≤ tn) (hn2 : n ≤ 16384) (hS : shp sh af = some (.inr (3, nodeFl h9 t9))) (hF : M af 0 = F) (hFr : 0 ≤ F ∧ F ≤ 2000) (k : ∀ p, isLB M p F (sl (M tb) 0 n.toNat) → K (some (ti p)) (sh, M, nx, zl)) : fm_Y (d + 2) 31 [.ref 8, .ref af, .ref t, .int (Int32.ofInt n)] (sh, M, nx, zl) K := by
  refine m31 [fx 8, gr af, gr t, ti n] ?_
  have hN := hT.1.1.1
  obtain ⟨⟨e1, e2, e3, e4⟩, eE⟩ := hT.1.2.2.2.1
  have hO := hT.1.2.2.2.2.1
  obtain ⟨-, hA, -, -, -⟩ := hT.2.1
  have L : ∀ (N : Nat) (lo hi x : Int) (y7 y8 : Option TV), hi - lo < 2 ^ N → x + N ≤ 31 → 0 ≤ x → 0 ≤ lo → lo ≤ hi → hi ≤ M 168 20 → (∀ j : Int, 0 ≤ j → j < lo → ltK M j F (sl (M tb) 0 n.toNat)) → (∀ j : Int, hi ≤ j → j < M 168 20 → ¬ ltK M j F (sl (M tb) 0 n.toNat)) → fm_X (d + 1) kd31 12 [some (fx 8), some (gr af), some (gr t), some (ti n), some (ti lo), some (ti hi), some (ti x), y7, y8] [] (sh, M, nx, zl) K := by
    intro N
    induction N with
    | zero =>
      intro lo hi x y7 y8 h1 h2 h3 h4 h5 h6 h7 h8
      have h1' : hi - lo < 1 := h1
      refine s31_12 (d + 1) K _ _ _ ?_
      refine ⟨by omega, fun w => by omega, fun w => ?_⟩
      refine ⟨by omega, fun w2 => k lo ⟨by omega, h7, fun j hj1 hj2 => h8 j (by omega) hj2⟩, fun w2 => by omega⟩
    | succ N ih =>
      intro lo hi x y7 y8 h1 h2 h3 h4 h5 h6 h7 h8
      have hp : (2 : Int) ^ (N + 1) = 2 * 2 ^ N := by rw [Int.pow_succ]; omega
      rw [hp] at h1
      refine s31_12 (d + 1) K _ _ _ ?_
      refine ⟨by omega, fun w => by omega, fun w => ?_⟩
      refine ⟨by omega, fun w2 => k lo ⟨by omega, h7, fun j hj1 hj2 => h8 j (by omega) hj2⟩, fun w2 => ?_⟩
      refine ⟨by omega, ?_⟩
      have hm : lo ≤ (lo + hi) / 2 ∧ (lo + hi) / 2 < hi := by omega
      generalize hmid : (lo + hi) / 2 = mid at hm ⊢
      have G : ∀ v : Int, (-2147483648 ≤ v ∧ v ≤ 2147483647) → (v < 0 → ltK M mid F (sl (M tb) 0 n.toNat)) → (0 ≤ v → ¬ ltK M mid F (sl (M tb) 0 n.toNat)) → b31_89 (d + 1) (fW (d + 1) kd31 K) K [some (fx 8), some (gr af), some (gr t), some (ti n), some (ti lo), some (ti hi), some (ti x), some (ti mid), some (ti v)] [] (sh, M, nx, zl) := by
        intro v hv g1 g2
        refine ⟨hv, fun w3 => ?_, fun w3 => ?_⟩
        · exact ih lo mid (x + 1) _ _ (by omega) (by omega) (by omega) (by omega) (by omega) (by omega) h7 (fun j hj1 hj2 hj3 => g2 w3 (ltK_mono hO (by omega) hj1 hj2 hj3))
        · exact ih (mid + 1) hi (x + 1) _ _ (by omega) (by omega) (by omega) (by omega) (by omega) (by omega) (fun j hj1 hj2 => ltK_mono hO hj1 (by omega) (by omega) (g1 w3)) h8
      obtain ⟨c1, c2, r, b, c3, c4⟩ := hT.2.2.2.1 mid (by omega) (by omega)
      obtain ⟨⟨f1, f2, fl, fk⟩, -, -, -⟩ := eE mid (by omega) (by omega)
      obtain ⟨a, ha, h7', t7', hSa, hEa, -⟩ := (hT.2.2.1 (M 183 mid) f1 f2).1 fl
      have ea := hEa.1
      refine ⟨by omega, fun m hm => ?_, fun hm => by omega⟩
      have em : m = a := by omega
      subst em
      refine ⟨_, hSa.1, ?_⟩
      refine ⟨_, hS, ?_⟩
      refine ⟨by omega, fun w3 => ?_, fun w3 => ?_⟩
      · refine G _ (by omega) (fun w4 => Or.inl (by omega)) (fun w4 z => ?_)
        rcases z with z | z <;> omega
      · refine ⟨by omega, fun m2 hm2 => ?_, fun hm2 => by omega⟩
        have em2 : m2 = r := by omega
        subst em2
        obtain ⟨⟨s1, s2⟩, ⟨s3, s4, s5⟩, s6, s7, s8⟩ := c4
        refine ⟨_, s1, ?_⟩
        refine ⟨by omega, fun m3 hm3 => ?_, fun hm3 => by omega⟩
        have em3 : m3 = m2 := by omega
        subst em3
        refine ⟨_, s1, ?_⟩
        refine ⟨_, ht.1.1, ?_⟩
        refine order_I (a := b) (b := tb) s2 ht.1.2 (by omega) ht.2.2.2.2 (by omega) (by omega) (by omega) hn0 (by omega) (by omega) ?_
        have ev : sl (M b) 0 (M m3 1).toNat = nmL M mid := by
          rw [s7, Int.toNat_natCast]
          exact s8
        have hr := ordL_sl (M b) (M tb) 0 0 (M m3 1).toNat n.toNat
        rw [ev] at hr ⊢
        have hl : (nmL M mid).length ≤ 4096 := s6
        refine G _ (by omega) (fun w4 => Or.inr ⟨by omega, w4⟩) (fun w4 z => ?_)
        rcases z with z | z
        · omega
        · omega
  exact L 11 0 (M 8 7) 0 none none (by rw [hA]; show M 168 20 - 0 < 2048; omega) (by omega) (by omega) (by omega) (by omega) (by omega) (fun j hj1 hj2 => by omega) (fun j hj1 hj2 => by omega)
end SEEK
