/-! MOUNTING: the exports; the class -/
section EXPO
variable {d nx zl : Nat} {K : Option TV → FH → Prop} {sh : Nat → Option Shp} {M : FM} {R S : List Int}
def piV (M : FM) (pr rr st : Nat) (R S : List Int) : Prop := M rr 1 = R.length ∧ M pr 2 = S.length ∧ (∀ i : Int, 0 ≤ i → i < S.length → M st i = lf S i) ∧ shR R S ∧ S.length ≤ 8
theorem prV_pi {M : FM} {pr rr rb st : Nat} {R S : List Int} {e : Int} (h : prV M pr rr rb st R S e) (h2 : shR R S) (h3 : S.length ≤ 8) : piV M pr rr st R S := by
  obtain ⟨⟨a1, a2⟩, b, c, e⟩ := h
  refine ⟨a1, b, fun i i0 i1 => ?_, h2, h3⟩
  have := c i.toNat (by omega)
  rw [show ((i.toNat : Nat) : Int) = i by omega] at this
  exact this
theorem piV_to {M M2 : FM} {pr rr st : Nat} (h : piV M pr rr st R S) (h1 : M2 pr = M pr) (h2 : M2 rr = M rr) (h3 : M2 st = M st) : piV M2 pr rr st R S := by
  unfold piV
  rw [h1, h2, h3]
  exact h
theorem pieceWith_Y {pr rr rb st nb : Nat} {s : Int} (hp : prS sh pr rr rb st nb) (hv : piV M pr rr st R S) (hs : -9223372036854775808 ≤ s ∧ s ≤ 9223372036854775807) (k : ∀ r : Int, (r = -1 ∧ (∀ i : Int, 0 ≤ i → i < S.length → lf S i ≠ s) ∨ (0 ≤ r ∧ r < S.length) ∧ lf S r = s) → K (some (ti r)) (sh, M, nx, zl)) : fm_Y (d + 1) 178 [.ref pr, .long (Int64.ofInt s)] (sh, M, nx, zl) K := by
  obtain ⟨⟨h1, h2, h3⟩, -, -⟩ := hp
  obtain ⟨v1, v2, v3, v4, v5⟩ := hv
  refine m178 [gr pr, tj s] ?_
  have L : ∀ (G : Nat) (i : Int), ((S.length : Int) - i).toNat < G → 0 ≤ i → i ≤ S.length → (∀ j : Int, 0 ≤ j → j < i → lf S j ≠ s) → fm_X d kd178 2 [some (gr pr), some (tj s), none, some (ti i)] [] (sh, M, nx, zl) K := by
    intro G
    induction G with
    | zero => intro i q; omega
    | succ G ih =>
      intro i q1 q2 q3 q4
      refine s178_2 d K _ _ _ ?_
      refine ⟨_, h1, ?_⟩
      refine ⟨by omega, fun w => k (-1) (Or.inl ⟨rfl, fun j j0 j1 => q4 j j0 (by omega)⟩), fun w => ?_⟩
      refine ⟨_, h1, ?_⟩
      refine ⟨9, h3, by omega, ?_⟩
      have e := v3 i q2 (by omega)
      have r := v4.2.1 i q2 (by omega)
      rw [e]
      refine ⟨by omega, ?_⟩
      refine ⟨by omega, fun w2 => ih (i + 1) (by omega) (by omega) (by omega) (fun j j0 j1 => ?_), fun w2 => k i (Or.inr ⟨by omega, w2⟩)⟩
      by_cases c : j < i
      · exact q4 j j0 c
      · rw [show j = i by omega]
        exact w2
  exact L _ 0 (Nat.lt_succ_self _) (by omega) (by omega) (fun j j0 j1 => by omega)
theorem flat_Y {pr rr rb st nb : Nat} {i o : Int} (hp : prS sh pr rr rb st nb) (hv : piV M pr rr st R S) (hi : i = -1 ∨ (0 ≤ i ∧ i < S.length)) (ho : 0 ≤ o ∧ o ≤ 65535) (k : ∀ r : Int, (r = -1 ∧ (i = -1 ∨ 8192 ≤ o ∨ R.length ≤ 8192 * i + o) ∨ r = 8192 * i + o ∧ 0 ≤ i ∧ o < 8192 ∧ 8192 * i + o < R.length) → K (some (ti r)) (sh, M, nx, zl)) : fm_Y (d + 2) 179 [.ref pr, .int (Int32.ofInt i), .int (Int32.ofInt o)] (sh, M, nx, zl) K := by
  obtain ⟨⟨h1, h2, h3⟩, -, -⟩ := hp
  have h2r := h2.1.1
  obtain ⟨v1, v2, v3, v4, v5⟩ := hv
  have v6 := v4.1
  refine m179 [gr pr, ti i, ti o] ?_
  refine ⟨by omega, fun w => k (-1) (Or.inl ⟨rfl, by omega⟩), fun w => ?_⟩
  refine ⟨⟨_, h1⟩, ?_⟩
  refine m180 [gr pr, ti i] ?_
  refine ⟨_, h1, ?_⟩
  refine ⟨_, h2r, ?_⟩
  refine ⟨by omega, ?_⟩
  refine ⟨by omega, fun w2 => ?_, fun w2 => k (-1) (Or.inl ⟨rfl, by omega⟩)⟩
  have e : i * 8192 + o = 8192 * i + o := by omega
  have T := k (8192 * i + o) (Or.inr ⟨rfl, by omega, by omega, by omega⟩)
  rw [← e] at T
  exact T
variable {n N : Int} {h : Int → Int}
theorem numberAt_Y {x : Int} (hn : M 101 2 = n) (hn2 : 0 ≤ n ∧ n ≤ 4096) (hN : 0 ≤ N ∧ N ≤ 65536) (hx : -1000000 ≤ x ∧ x ≤ 1000000) (hv : bgV M h n N) (k : K (some (ti (h x))) (sh, M, nx, zl)) : fm_Y (d + 1) 181 [.ref 101, .int (Int32.ofInt x)] (sh, M, nx, zl) K := by
  obtain ⟨v1, v2, v3⟩ := hv
  refine m181 [fx 101, ti x] ?_
  have C57 : ∀ (lo hi : Int) (y4 y5 : Option TV), 0 ≤ lo → lo ≤ n → hi ≤ lo → (∀ i : Int, 0 ≤ i → i < lo → M 106 i < x) → (∀ i : Int, hi ≤ i → i < n → x ≤ M 106 i) → b181_57 d (fW d kd181 K) K [some (fx 101), some (ti x), some (ti lo), some (ti hi), y4, y5] [] (sh, M, nx, zl) := by
    intro lo hi y4 y5 h0 h1 h2 h3 h4
    have Z : (lo < n → M 106 lo ≠ x) → K (some (ti 0)) (sh, M, nx, zl) := by
      intro q
      have e : h x = 0 := by
        by_cases c : h x = 0
        · exact c
        · obtain ⟨i, i0, i1, i2⟩ := v3 x c
          have a1 : ¬ i < lo := fun z => by have := h3 i i0 z; omega
          have a2 : ¬ lo < i := fun z => by
            have := v2 lo i h0 z i1
            have := h4 lo h2 (by omega)
            omega
          have a3 : i = lo := by omega
          rw [a3] at i2 i1
          exact absurd i2 (q i1)
      rw [e] at k
      exact k
    refine ⟨by omega, fun w => Z (fun q => by omega), fun w => ?_⟩
    refine ⟨by omega, ?_⟩
    have b := v1 lo h0 (by omega)
    refine ⟨by omega, fun w2 => Z (fun _ => w2), fun w2 => ?_⟩
    refine ⟨by omega, ?_⟩
    rw [← b.2, w2]
    exact k
  have L : ∀ (j : Nat) (c lo hi : Int) (y5 : Option TV), hi - lo < 2 ^ j → 0 ≤ c → c + j ≤ 20 → 0 ≤ lo → lo ≤ hi → hi ≤ n → (∀ i : Int, 0 ≤ i → i < lo → M 106 i < x) → (∀ i : Int, hi ≤ i → i < n → x ≤ M 106 i) → fm_X d kd181 10 [some (fx 101), some (ti x), some (ti lo), some (ti hi), some (ti c), y5] [] (sh, M, nx, zl) K := by
    intro j
    induction j with
    | zero =>
      intro c lo hi y5 q1 q2 q3 q4 q5 q6 q7 q8
      have q1' : hi - lo < 1 := q1
      refine s181_10 d K _ _ _ ?_
      refine ⟨by omega, fun w => by omega, fun w => ?_⟩
      exact ⟨by omega, fun w2 => C57 lo hi _ _ q4 (by omega) (by omega) q7 q8, fun w2 => by omega⟩
    | succ j ih =>
      intro c lo hi y5 q1 q2 q3 q4 q5 q6 q7 q8
      have q1' : hi - lo < 2 * 2 ^ j := by
        rw [Int.pow_succ] at q1
        omega
      refine s181_10 d K _ _ _ ?_
      refine ⟨by omega, fun w => by omega, fun w => ?_⟩
      refine ⟨by omega, fun w2 => C57 lo hi _ _ q4 (by omega) (by omega) q7 q8, fun w2 => ?_⟩
      refine ⟨by omega, ?_⟩
      refine ⟨by omega, ?_⟩
      obtain ⟨m, gm⟩ : ∃ m : Int, m = (lo + hi) / 2 := ⟨_, rfl⟩
      rw [← gm]
      have b := v1 m (by omega) (by omega)
      refine ⟨by omega, fun w3 => ?_, fun w3 => ?_⟩
      · refine ih (c + 1) lo m _ (by omega) (by omega) (by omega) q4 (by omega) (by omega) q7 (fun i i0 i1 => ?_)
        by_cases e : i = m
        · rw [e]
          omega
        · have := v2 m i (by omega) (by omega) i1
          omega
      · refine ih (c + 1) (m + 1) hi _ (by omega) (by omega) (by omega) (by omega) (by omega) q6 (fun i i0 i1 => ?_) q8
        by_cases e : i = m
        · rw [e]
          omega
        · have := v2 i m i0 (by omega) (by omega)
          omega
  have T := L 13 0 0 n none (by omega) (by omega) (by omega) (by omega) (by omega) (by omega) (fun i i0 i1 => by omega) (fun i i0 i1 => by omega)
  rw [← hn] at T
  exact T
theorem numberBy_Y {x : Int} (hpi : piV M 102 104 103 R S) (hN : (R.length : Int) ≤ 65536) (hn : M 101 2 = n) (hn2 : 0 ≤ n ∧ n ≤ 4096) (hx : -9223372036854775808 ≤ x ∧ x ≤ 9223372036854775807) (hv : bgV M h n R.length) (k : ∀ r : Int, ((∃ y : Int, fl S R.length (x % 18446744073709551616 / 65536) (x % 65536) y ∧ r = h y) ∨ (∀ y : Int, ¬ fl S R.length (x % 18446744073709551616 / 65536) (x % 65536) y) ∧ r = 0) → K (some (ti r)) (sh, M, nx, zl)) : fm_Y (d + 3) 177 [.ref 101, .long (Int64.ofInt x)] (sh, M, nx, zl) K := by
  refine m177 [fx 101, tj x] ?_
  refine ⟨_, lushr16 x, ?_⟩
  refine pieceWith_Y (pr102 sh) hpi (by omega) (fun i hi => ?_)
  refine flat_Y (pr102 sh) hpi (by omega) (by omega) (fun y hy => ?_)
  have v6 := hpi.2.2.2.1.1
  have v7 := hpi.2.2.2.2
  refine ⟨by omega, fun w => ?_, fun w => ?_⟩
  · refine numberAt_Y hn hn2 (by omega) (by omega) hv ?_
    refine k (h y) (Or.inl ⟨y, ⟨i, by omega, ?_, by omega, by omega, by omega⟩, rfl⟩)
    rcases hi with z | z
    · omega
    · exact z.2
  · refine k 0 (Or.inr ⟨fun z hz => ?_, rfl⟩)
    obtain ⟨j, j1, j2, j3, j4, j5⟩ := hz
    rcases hi with q | q
    · exact q.2 j j1.1 j1.2 j2
    · have : i = j := by
        by_cases c : i < j
        · have := hpi.2.2.2.1.2.2 i j q.1.1 c j1.2
          omega
        · by_cases c2 : j < i
          · have := hpi.2.2.2.1.2.2 j i j1.1 c2 q.1.2
            omega
          · omega
      omega
theorem exportsHold_Y {x pl g : Int → Int} {B ids F : Int} (hpi : piV M 102 104 103 R S) (hN : (R.length : Int) ≤ 65536) (hn : M 101 2 = n ∧ M 97 10 = n) (hn2 : 0 ≤ n ∧ n ≤ 4096) (hv : bgV M h n R.length) (hI : inV g R.length B ids F n pl h) (hr : M 97 13 % 2 ≠ 0 → M 123 1 = 8 * n ∧ agr (M 124) x (8 * n)) (k : ∀ z : Int, (z = 1 ∧ (M 97 13 % 2 = 0 ∨ xpP x S n pl) ∨ z = 0 ∧ M 97 13 % 2 ≠ 0 ∧ ¬ xpP x S n pl) → K (some (ti z)) (sh, M, nx, zl)) : fm_Y (d + 4) 176 [.ref 97] (sh, M, nx, zl) K := by
  have hs := hpi.2.2.2.1
  refine m176 [fx 97] ?_
  have L : ∀ (G : Nat) (j : Int), (n + 1 - j).toNat < G → 1 ≤ j → j ≤ n + 1 → (M 97 13 % 2 ≠ 0 → ∀ i : Int, 1 ≤ i → i < j → s64 (le x (8 * i - 8) 8) = 65536 * lf S (pl i / 8192) + pl i % 8192) → fm_X (d + 3) kd176 2 [some (fx 97), some (ti j)] [] (sh, M, nx, zl) K := by
    intro G
    induction G with
    | zero => intro j q; omega
    | succ G ih =>
      intro j q1 q2 q3 q4
      refine s176_2 (d + 3) K _ _ _ ?_
      refine ⟨by omega, fun w => ⟨Or.inr rfl, k 1 (Or.inl ⟨rfl, Or.inl w⟩)⟩, fun w => ?_⟩
      refine ⟨by omega, fun w2 => ⟨Or.inr rfl, k 1 (Or.inl ⟨rfl, Or.inr (fun i i0 i1 => q4 w i i0 (by omega))⟩)⟩, fun w2 => ?_⟩
      obtain ⟨r1, r2⟩ := hr w
      refine g8_Y (pr121 sh).1.2.1 r1 r2 (by omega) (by omega) (fun l8 => ?_)
      rw [show 8 * (j - 1) = 8 * j - 8 by omega] at l8 ⊢
      obtain ⟨p1, p2, p3, p4⟩ := hI.1 j q2 (by omega)
      obtain ⟨s1, s2, s3⟩ := id hs
      have ri := s2 (pl j / 8192) (by omega) (by omega)
      refine numberBy_Y hpi hN hn.1 hn2 l8 hv (fun r hr2 => ?_)
      obtain ⟨u, gu⟩ : ∃ u : Int, u = s64 (le x (8 * j - 8) 8) := ⟨_, rfl⟩
      rw [← gu] at hr2 l8
      have key : r = j ↔ u = 65536 * lf S (pl j / 8192) + pl j % 8192 := by
        constructor
        · intro e
          rcases hr2 with ⟨y, ⟨i, i1, i2, i3, i4, i5⟩, y2⟩ | ⟨y1, y2⟩
          · have hy : h y ≠ 0 := by omega
            have z := (hI.2 y hy).2.2
            rw [← y2, e] at z
            rw [z]
            have ei : y / 8192 = i := by omega
            rw [ei, i2]
            have := s2 i i1.1 i1.2
            omega
          · omega
        · intro e
          have hf : fl S R.length (u % 18446744073709551616 / 65536) (u % 65536) (pl j) := by
            refine ⟨pl j / 8192, by omega, ?_, by omega, by omega, p2⟩
            omega
          rcases hr2 with ⟨y, y1, y2⟩ | ⟨y1, y2⟩
          · rw [y2, fl_one hs y1 hf]
            exact p3
          · exact absurd hf (y1 _)
      have rr : -1 ≤ r ∧ r ≤ 4096 := by
        rcases hr2 with ⟨y, y1, y2⟩ | ⟨y1, y2⟩
        · by_cases c : h y = 0
          · omega
          · have := (hI.2 y c).2.1
            omega
        · omega
      clear hr2
      refine ⟨by omega, fun w3 => ?_, fun w3 => ⟨Or.inl rfl, k 0 (Or.inr ⟨rfl, w, fun q => w3 (key.2 ?_)⟩)⟩⟩
      · refine ih (j + 1) (by omega) (by omega) (by omega) (fun _ i i0 i1 => ?_)
        by_cases c : i < j
        · exact q4 w i i0 c
        · have e : i = j := by omega
          rw [e, ← gu]
          exact key.1 w3
      · rw [gu]
        exact q j q2 (by omega)
  exact L _ 1 (Nat.lt_succ_self _) (by omega) (by omega) (fun _ i i0 i1 => by omega)
end EXPO
