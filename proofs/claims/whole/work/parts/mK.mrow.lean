/-! FREEZING: rows of the reference: the short methods -/
def mrS (sh : Nat → Option Shp) (q b st cl : Nat) : Prop := (shp sh q = some (.inr (14, [some (some b), none, some (some st), none, some (some cl), none, none])) ∧ shp sh b = some (.inl (.byte, 65536)) ∧ shp sh st = some (.inl (.int, 10)) ∧ shp sh cl = some (.inl (.byte, 65600))) ∧ (226 ≤ q ∧ q ≤ 230) ∧ b = q + 1 ∧ st = q + 2 ∧ cl = q + 3
theorem mr226 (sh : Nat → Option Shp) : mrS sh 226 227 228 229 := ⟨⟨rfl, rfl, rfl, rfl⟩, by decide, rfl, rfl, rfl⟩
theorem mr230 (sh : Nat → Option Shp) : mrS sh 230 231 232 233 := ⟨⟨rfl, rfl, rfl, rfl⟩, by decide, rfl, rfl, rfl⟩
section MROW
variable {d nx zl : Nat} {K : Option TV → FH → Prop} {sh : Nat → Option Shp} {M : FM} {q b st cl : Nat} {s : Option (List Int)}
theorem mrbegin_Y (hq : mrS sh q b st cl) (k : ∀ M2 : FM, (∀ c : Nat, c ≠ q → M2 c = M c) → M2 q 1 = 0 → M2 q 3 = 0 → M2 q 5 = 0 → M2 q 6 = 0 → K none (sh, M2, nx, zl)) : fm_Y (d + 1) 302 [.ref q] (sh, M, nx, zl) K := by
  obtain ⟨⟨h1, -⟩, ⟨q1, q2⟩, -⟩ := hq
  refine m302 [gr q] ?_
  refine ⟨_, ⟨by omega, h1, rfl⟩, ?_⟩
  refine ⟨_, ⟨by omega, h1, rfl⟩, ?_⟩
  refine ⟨_, ⟨by omega, h1, rfl⟩, ?_⟩
  refine ⟨_, ⟨by omega, h1, rfl⟩, ?_⟩
  refine ⟨Or.inl rfl, ?_⟩
  obtain ⟨R1, g1⟩ : ∃ R1 : FM, R1 = pq M q 1 0 := ⟨_, rfl⟩
  obtain ⟨R2, g2⟩ : ∃ R2 : FM, R2 = pq R1 q 3 0 := ⟨_, rfl⟩
  obtain ⟨R3, g3⟩ : ∃ R3 : FM, R3 = pq R2 q 5 0 := ⟨_, rfl⟩
  obtain ⟨R4, g4⟩ : ∃ R4 : FM, R4 = pq R3 q 6 0 := ⟨_, rfl⟩
  have F := k R4 (fun c hc => by rw [g4, pq_o _ _ _ hc, g3, pq_o _ _ _ hc, g2, pq_o _ _ _ hc, g1, pq_o _ _ _ hc]) (by rw [g4, pq_ne _ _ _ _ (by decide), g3, pq_ne _ _ _ _ (by decide), g2, pq_ne _ _ _ _ (by decide), g1, pq_at]) (by rw [g4, pq_ne _ _ _ _ (by decide), g3, pq_ne _ _ _ _ (by decide), g2, pq_at]) (by rw [g4, pq_ne _ _ _ _ (by decide), g3, pq_at]) (by rw [g4, pq_at])
  rw [g4, g3, g2, g1] at F
  exact F
theorem startOf_Y {p : Int} (hq : mrS sh q b st cl) (hp : 0 ≤ p ∧ p ≤ 65536) (k : K (some (ti (M st (p / 8192)))) (sh, M, nx, zl)) : fm_Y (d + 1) 309 [.ref q, .int (Int32.ofInt p)] (sh, M, nx, zl) K := by
  obtain ⟨⟨h1, h2, h3, h4⟩, -⟩ := hq
  refine m309 [gr q, ti p] ?_
  refine ⟨_, h1, ?_⟩
  refine ⟨by omega, ?_⟩
  refine ⟨10, h3, ⟨by omega, by omega, by omega⟩, ?_⟩
  exact k
theorem isNear_Y {x : Int} {H : FH} (hx : -2147483648 ≤ x ∧ x ≤ 2147483647) (k : ∀ z : Int, (z = 1 ∧ (-32768 ≤ x ∧ x < 32768) ∨ z = 0 ∧ ¬ (-32768 ≤ x ∧ x < 32768)) → K (some (ti z)) H) : fm_Y (d + 1) 310 [.int (Int32.ofInt x)] H K := by
  refine m310 [ti x] ?_
  refine ⟨by omega, fun w => ⟨Or.inl rfl, k 0 (Or.inr ⟨rfl, by omega⟩)⟩, fun w => ?_⟩
  refine ⟨by omega, fun w2 => ⟨Or.inl rfl, k 0 (Or.inr ⟨rfl, by omega⟩)⟩, fun w2 => ⟨Or.inr rfl, k 1 (Or.inl ⟨rfl, by omega, by omega⟩)⟩⟩
theorem mreference_Y {p : Int} (hq : mrS sh q b st cl) (hp : 0 ≤ p ∧ p ≤ 65536) (hst : 0 ≤ M st (p / 8192) ∧ M st (p / 8192) ≤ 131072) (k : K (some (tj (M st (p / 8192) * 65536 + p % 8192))) (sh, M, nx, zl)) : fm_Y (d + 2) 315 [.ref q, .int (Int32.ofInt p)] (sh, M, nx, zl) K := by
  refine m315 [gr q, ti p] ?_
  refine startOf_Y hq hp ?_
  refine ⟨by omega, ?_⟩
  refine ⟨by omega, ?_⟩
  refine ⟨by omega, ?_⟩
  rw [Int.mul_comm] at k
  exact k
theorem addNumber_Y {v : Int} {n : Nat} (hv : -9223372036854775808 ≤ v ∧ v ≤ 9223372036854775807) (hn : n ≤ 8) (h : rbO M s) (k : ∀ M2 : FM, adF M M2 → rbO M2 (apO 131072 s (leL v n)) → K none (sh, M2, nx, zl)) : fm_Y (d + 2) 314 [.ref 168, .long (Int64.ofInt v), .int (Int32.ofInt n)] (sh, M, nx, zl) K := by
  refine m314 [fx 168, tj v, ti n] ?_
  have L : ∀ (N i : Nat) (M1 : FM), n - i < N → i ≤ n → adF M M1 → rbO M1 (apO 131072 s (leL v i)) → fm_X (d + 1) kd314 3 [some (fx 168), some (tj v), none, some (ti n), some (ti i)] [] (sh, M1, nx, zl) K := by
    intro N
    induction N with
    | zero =>
      intro i M1 hN
      omega
    | succ N ih =>
      intro i M1 hN hi f1 h1
      refine s314_3 (d + 1) K _ _ _ ?_
      refine ⟨by omega, fun w => ?_, fun w => ?_⟩
      · have e : i = n := by omega
        rw [e] at h1
        exact k M1 f1 h1
      · refine ⟨⟨by omega, by omega, hv⟩, ?_⟩
        refine add_Y h1 (fun M2 f2 h2 => ?_)
        refine ih (i + 1) M2 (by omega) (by omega) (adF_t f1 f2) ?_
        rw [apO_app, show ((8 : Int) * (i : Int)).toNat = 8 * i by omega, ← leL_back] at h2
        exact h2
  refine L (n + 1) 0 M (by omega) (by omega) (adF_r M) ?_
  show rbO M (apO 131072 s [])
  rw [rbO_nil h]
  exact h
end MROW
