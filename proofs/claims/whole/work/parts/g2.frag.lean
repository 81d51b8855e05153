/-! MOUNTING: the fragments told; both -/
def frI (B A : Int) (g : Int → Int) (i : Int) : Prop := le g (16 * i + 12) 4 = 0 ∧ (le g (16 * i + 8) 4 < 33554432 ∧ 1 ≤ le g (16 * i + 8) 4 % 16777216 ∧ le g (16 * i + 8) 4 % 16777216 ≤ B) ∧ (96 ≤ s64 (le g (16 * i) 8) ∧ s64 (le g (16 * i) 8) ≤ A - le g (16 * i + 8) 4 % 16777216)
def frP (B A : Int) (g : Int → Int) (n : Int) : Prop := ∀ i : Int, 0 ≤ i → i < n → frI B A g i
def lf (R : List Int) : Int → Int := fun i => (R[i.toNat]?).getD 0
theorem lf_agr {f : Int → Int} {R : List Int} (h : sl f 0 R.length = R) : agr f (lf R) R.length := by
  intro i h0 h1
  have := sl_get (f := f) R.length 0 i.toNat (by omega)
  rw [h] at this
  unfold lf
  rw [this]
  rw [show (0 : Int) + (i.toNat : Int) = i by omega]
  show f i % 256 = f i % 256 % 256
  omega
theorem prV_row {M : FM} {pr rr rb st : Nat} {R S : List Int} {e : Int} (h : prV M pr rr rb st R S e) : M rr 1 = R.length ∧ agr (M rb) (lf R) R.length := ⟨h.1.1, lf_agr h.1.2⟩
theorem rrV_row {M : FM} {r b st sz : Nat} {R S : List Int} (h : rrV M r b st sz R S) : M r 1 = R.length ∧ agr (M b) (lf R) R.length := ⟨h.1.1, lf_agr h.1.2⟩
section ROWREAD
variable {d nx zl : Nat} {K : Option TV → FH → Prop} {sh : Nat → Option Shp} {M : FM} {a b n : Nat} {g : Int → Int} {N p : Int}
theorem g2_Y (hr : rowS sh a b n) (hN : M a 1 = N) (hg : agr (M b) g N) (h1 : N ≤ n) (hp : 0 ≤ p ∧ p + 2 ≤ N) (k : 0 ≤ le g p 2 ∧ le g p 2 < 65536 → K (some (ti (le g p 2))) (sh, M, nx, zl)) : fm_Y (d + 1) 129 [.ref a, .int (Int32.ofInt p)] (sh, M, nx, zl) K := by
  have z := hr.2.2.2.2
  refine two_Y hr (by omega) (by omega) (by omega) ?_
  have e : r2 (M b) (M a 1) p = le g p 2 := by
    unfold r2
    rw [if_pos (by omega), le_cg hg hp.1 2 (by omega)]
  rw [e]
  exact k ⟨le_nn _ _ _, le_lt2 _ _⟩
theorem g4_Y (hr : rowS sh a b n) (hN : M a 1 = N) (hg : agr (M b) g N) (h1 : N ≤ n) (hp : 0 ≤ p ∧ p + 4 ≤ N) (k : ∀ x : Int, (0 ≤ le g p 4 ∧ le g p 4 < 4294967296) → (-2147483648 ≤ x ∧ x ≤ 2147483647) → ((x = le g p 4 ∧ le g p 4 < 2147483648) ∨ (x = le g p 4 - 4294967296 ∧ 2147483648 ≤ le g p 4)) → K (some (ti x)) (sh, M, nx, zl)) : fm_Y (d + 1) 61 [.ref a, .int (Int32.ofInt p)] (sh, M, nx, zl) K := by
  have z := hr.2.2.2.2
  refine four_Y hr (by omega) (by omega) (by omega) ?_
  have e : r4 (M b) (M a 1) p = s32 (le g p 4) := by
    unfold r4
    rw [if_pos (by omega), le_cg hg hp.1 4 (by omega)]
  rw [e]
  have q1 := le_nn g 4 p
  have q2 := le_lt4 g p
  refine k _ ⟨q1, q2⟩ (s32_r _) ?_
  unfold s32
  omega
theorem g8_Y (hr : rowS sh a b n) (hN : M a 1 = N) (hg : agr (M b) g N) (h1 : N ≤ n) (hp : 0 ≤ p ∧ p + 8 ≤ N) (k : (-9223372036854775808 ≤ s64 (le g p 8) ∧ s64 (le g p 8) ≤ 9223372036854775807) → K (some (tj (s64 (le g p 8)))) (sh, M, nx, zl)) : fm_Y (d + 1) 130 [.ref a, .int (Int32.ofInt p)] (sh, M, nx, zl) K := by
  have z := hr.2.2.2.2
  refine eight_Y hr (by omega) (by omega) (by omega) ?_
  have e : r8 (M b) (M a 1) p = s64 (le g p 8) := by
    unfold r8
    rw [if_pos (by omega), le_cg hg hp.1 8 (by omega)]
  rw [e]
  exact k (s64_r _)
theorem n2_Y (hs : shp sh b = some (.inl (.byte, n))) (hn : n ≤ 2147483647) (hg : agr (M b) g N) (h1 : N ≤ n) (hp : 0 ≤ p ∧ p + 2 ≤ N) (k : 0 ≤ le g p 2 ∧ le g p 2 < 65536 → K (some (tj (le g p 2))) (sh, M, nx, zl)) : fm_Y (d + 1) 320 [.ref b, .int (Int32.ofInt p), .int (Int32.ofInt 2)] (sh, M, nx, zl) K :=
  num_Y (m := 2) hs hn hp.1 (by omega) (by omega) (by rw [le_cg hg hp.1 2 (by omega)]) (k ⟨le_nn _ _ _, le_lt2 _ _⟩)
theorem n4_Y (hs : shp sh b = some (.inl (.byte, n))) (hn : n ≤ 2147483647) (hg : agr (M b) g N) (h1 : N ≤ n) (hp : 0 ≤ p ∧ p + 4 ≤ N) (k : 0 ≤ le g p 4 ∧ le g p 4 < 4294967296 → K (some (tj (le g p 4))) (sh, M, nx, zl)) : fm_Y (d + 1) 320 [.ref b, .int (Int32.ofInt p), .int (Int32.ofInt 4)] (sh, M, nx, zl) K :=
  num_Y (m := 4) hs hn hp.1 (by omega) (by omega) (by rw [le_cg hg hp.1 4 (by omega)]) (k ⟨le_nn _ _ _, le_lt4 _ _⟩)
theorem n8_Y (hs : shp sh b = some (.inl (.byte, n))) (hn : n ≤ 2147483647) (hg : agr (M b) g N) (h1 : N ≤ n) (hp : 0 ≤ p ∧ p + 8 ≤ N) (k : (-9223372036854775808 ≤ s64 (le g p 8) ∧ s64 (le g p 8) ≤ 9223372036854775807) → K (some (tj (s64 (le g p 8)))) (sh, M, nx, zl)) : fm_Y (d + 1) 320 [.ref b, .int (Int32.ofInt p), .int (Int32.ofInt 8)] (sh, M, nx, zl) K :=
  num_Y (m := 8) hs hn hp.1 (by omega) (by omega) (by rw [le_cg hg hp.1 8 (by omega)]; exact s64_of _) (k (s64_r _))
end ROWREAD
section FRAG
variable {d nx zl : Nat} {K : Option TV → FH → Prop} {sh : Nat → Option Shp} {M : FM} {g : Int → Int} {n B A : Int}
theorem fragmentsHold_Y (hn : M 97 11 = n) (hn2 : 0 ≤ n ∧ n ≤ 4096) (hB : M 97 9 = B) (hB2 : 0 ≤ B ∧ B ≤ 65536) (hA : M 97 15 = A) (hA2 : 0 ≤ A ∧ A ≤ 131072) (hg : 0 < n → M 119 1 = 16 * n ∧ agr (M 120) g (16 * n))
    (k : ∀ z : Int, (z = 1 ∧ frP B A g n ∨ z = 0 ∧ ¬ frP B A g n) → K (some (ti z)) (sh, M, nx, zl)) : fm_Y (d + 2) 155 [.ref 97] (sh, M, nx, zl) K := by
  have hr := (pr117 sh).1.2.1
  have L : ∀ (G : Nat) (i : Int) (y2 y3 y4 y5 : Option TV), (n - i).toNat < G → 0 ≤ i → i ≤ n → (∀ j : Int, 0 ≤ j → j < i → frI B A g j) → fm_X (d + 1) kd155 2 [some (fx 97), some (ti i), y2, y3, y4, y5] [] (sh, M, nx, zl) K := by
    intro G
    induction G with
    | zero => intro i y2 y3 y4 y5 h; omega
    | succ G ih =>
      intro i y2 y3 y4 y5 h1 h2 h3 h4
      refine s155_2 (d + 1) K _ _ _ ?_
      refine ⟨by omega, fun w => ⟨Or.inr rfl, k 1 (Or.inl ⟨rfl, fun j j0 j1 => h4 j j0 (by omega)⟩)⟩, fun w => ?_⟩
      have hi : i < n := by omega
      obtain ⟨g1, g2⟩ := hg (by omega)
      have NO : ¬ frI B A g i → K (some (ti 0)) (sh, M, nx, zl) := fun h => k 0 (Or.inr ⟨rfl, fun q => h (q i h2 hi)⟩)
      refine g8_Y hr g1 g2 (by omega) (by omega) (fun b8 => ?_)
      refine g4_Y hr g1 g2 (by omega) (by omega) (fun x x1 x2 x3 => ?_)
      refine g4_Y hr g1 g2 (by omega) (by omega) (fun y q1 q2 q3 => ?_)
      refine ⟨by omega, fun w1 => ⟨Or.inl rfl, NO (fun q => by have := q.1; omega)⟩, fun w1 => ?_⟩
      refine ⟨by omega, fun w2 => ⟨Or.inl rfl, NO (fun q => by have := q.2.1.1; omega)⟩, fun w2 => ?_⟩
      refine ⟨by omega, fun w3 => ⟨Or.inl rfl, NO (fun q => by have := q.2.1.1; omega)⟩, fun w3 => ?_⟩
      have ex : x = le g (16 * i + 8) 4 := by omega
      rw [ex]
      refine ⟨by omega, fun w4 => ⟨Or.inl rfl, NO (fun q => by have := q.2.1.2.1; omega)⟩, fun w4 => ?_⟩
      refine ⟨by omega, fun w5 => ⟨Or.inl rfl, NO (fun q => by have := q.2.1.2.2; omega)⟩, fun w5 => ?_⟩
      refine ⟨by omega, fun w6 => ⟨Or.inl rfl, NO (fun q => by have := q.2.2.1; omega)⟩, fun w6 => ?_⟩
      refine ⟨by omega, ?_⟩
      refine ⟨by omega, fun w7 => ?_, fun w7 => ⟨Or.inl rfl, NO (fun q => by have := q.2.2.2; omega)⟩⟩
      refine ih (i + 1) _ _ _ _ (by omega) (by omega) (by omega) (fun j j0 j1 => ?_)
      by_cases c : j < i
      · exact h4 j j0 c
      · have ej : j = i := by omega
        rw [ej]
        exact ⟨by omega, ⟨by omega, by omega, by omega⟩, by omega, by omega⟩
  refine m155 [fx 97] ?_
  exact L _ 0 _ _ _ _ (Nat.lt_succ_self _) (by omega) (by omega) (fun j j0 j1 => by omega)
theorem areFragments_Y (hn : M 168 94 = n) (hn2 : 0 ≤ n ∧ n ≤ 4096) (hB : M 168 93 = B) (hB2 : 0 ≤ B ∧ B ≤ 65536) (hA : M 168 98 = A) (hA2 : 0 ≤ A ∧ A ≤ 131072) (hg : 0 < n → agr (M 249) g (16 * n))
    (k : ∀ z : Int, (z = 1 ∧ frP B A g n ∨ z = 0 ∧ ¬ frP B A g n) → K (some (ti z)) (sh, M, nx, zl)) : fm_Y (d + 2) 341 [.ref 168] (sh, M, nx, zl) K := by
  have hr := (rr246 sh).1.2.1
  have L : ∀ (G : Nat) (i : Int) (y2 y3 y4 y5 y6 y7 y8 : Option TV), (n - i).toNat < G → 0 ≤ i → i ≤ n → (∀ j : Int, 0 ≤ j → j < i → frI B A g j) → fm_X (d + 1) kd341 2 [some (fx 168), some (ti i), y2, y3, y4, y5, y6, y7, y8] [] (sh, M, nx, zl) K := by
    intro G
    induction G with
    | zero => intro i y2 y3 y4 y5 y6 y7 y8 h; omega
    | succ G ih =>
      intro i y2 y3 y4 y5 y6 y7 y8 h1 h2 h3 h4
      refine s341_2 (d + 1) K _ _ _ ?_
      refine ⟨by omega, fun w => ⟨Or.inr rfl, k 1 (Or.inl ⟨rfl, fun j j0 j1 => h4 j j0 (by omega)⟩)⟩, fun w => ?_⟩
      have hi : i < n := by omega
      have g2 := hg (by omega)
      have NO : ¬ frI B A g i → K (some (ti 0)) (sh, M, nx, zl) := fun h => k 0 (Or.inr ⟨rfl, fun q => h (q i h2 hi)⟩)
      refine n8_Y hr (by omega) g2 (by omega) (by omega) (fun b8 => ?_)
      refine n4_Y hr (by omega) g2 (by omega) (by omega) (fun x1 => ?_)
      have C81 : ∀ v : Int, (v = 0 ∨ v = 1) → (v = 1 ↔ (96 ≤ s64 (le g (16 * i) 8) ∧ s64 (le g (16 * i) 8) ≤ A - le g (16 * i + 8) 4 % 16777216)) → b341_81 (d + 1) (fW (d + 1) kd341 K) K [some (fx 168), some (ti i), some (tj (s64 (le g (16 * i) 8))), none, some (tj (le g (16 * i + 8) 4)), none, some (tj (le g (16 * i + 8) 4 % 16777216)), none, y8] [ti v] (sh, M, nx, zl) := by
        intro v hv ev
        refine n4_Y hr (by omega) g2 (by omega) (by omega) (fun x2 => ?_)
        refine ⟨by omega, fun w1 => ⟨Or.inl rfl, NO (fun q => w1 q.1)⟩, fun w1 => ?_⟩
        refine ⟨by omega, fun w2 => ⟨Or.inl rfl, NO (fun q => by have := q.2.1.1; omega)⟩, fun w2 => ?_⟩
        refine ⟨by omega, fun w3 => ⟨Or.inl rfl, NO (fun q => by have := q.2.1.2.1; omega)⟩, fun w3 => ?_⟩
        refine ⟨by omega, ?_⟩
        refine ⟨by omega, fun w4 => ⟨Or.inl rfl, NO (fun q => by have := q.2.1.2.2; omega)⟩, fun w4 => ?_⟩
        refine ⟨by omega, fun w5 => ?_, fun w5 => ⟨Or.inl rfl, NO (fun q => by have := ev.2 q.2.2; omega)⟩⟩
        refine ih (i + 1) _ _ _ _ _ _ _ (by omega) (by omega) (by omega) (fun j j0 j1 => ?_)
        by_cases c : j < i
        · exact h4 j j0 c
        · have ej : j = i := by omega
          rw [ej]
          exact ⟨by omega, ⟨by omega, by omega, by omega⟩, ev.1 (by omega)⟩
      refine ⟨by omega, fun w1 => C81 0 (Or.inl rfl) ⟨fun q => by omega, fun q => by omega⟩, fun w1 => ?_⟩
      refine ⟨by omega, ?_⟩
      refine ⟨by omega, fun w2 => C81 0 (Or.inl rfl) ⟨fun q => by omega, fun q => by omega⟩, fun w2 => C81 1 (Or.inr rfl) ⟨fun _ => by omega, fun _ => rfl⟩⟩
  refine m341 [fx 168] ?_
  exact L _ 0 _ _ _ _ _ _ _ (Nat.lt_succ_self _) (by omega) (by omega) (fun j j0 j1 => by omega)
end FRAG
