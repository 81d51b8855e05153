/-! CALLS of both: drop, the reference's forget -/
def dlq (M : FM) (x i : Int) : Int := if M 171 i = M 171 x ∧ M 179 x < M 179 i then M 179 i - M 180 x else M 179 i
theorem dlq_x (M : FM) (x : Int) : dlq M x x = M 179 x := by
  unfold dlq
  rw [if_neg (by omega)]
section MFORGET
variable {d nx zl : Nat} {K : Option TV → FH → Prop} {sh : Nat → Option Shp} {M : FM} {x y2 : Int}
theorem mf130 (hN : 0 ≤ M 168 5 ∧ M 168 5 ≤ 2000) (hx : 0 ≤ x ∧ x < M 168 5) (hr : ∀ i : Int, 0 ≤ i → i < M 168 5 → (1 ≤ M 171 i ∧ M 171 i ≤ 7) ∧ (M 171 i = 2 ∨ M 171 i = 3 → 0 ≤ M 179 i ∧ M 179 i ≤ 65536)) (hk : M 171 x = 2 ∨ M 171 x = 3)
    (k : ∀ M2 : FM, (∀ i : Int, 0 ≤ i → i < M 168 5 → M2 179 i = dlq M x i) → M2 180 = ur (M 180) x 0 → (∀ c : Nat, c ≠ 179 → c ≠ 180 → M2 c = M c) → K none (sh, M2, nx, zl)) : ∀ (G : Nat) (i : Int) (M2 : FM) (y4 : Option TV), (M 168 5 - i).toNat < G → 0 ≤ i → i ≤ M 168 5 → (∀ j : Int, 0 ≤ j → j < i → M2 179 j = dlq M x j) → (∀ j : Int, i ≤ j → M2 179 j = M 179 j) → (∀ c : Nat, c ≠ 179 → M2 c = M c) → fm_X d kd257 130 [some (fx 168), some (ti x), some (ti y2), some (ti i), y4] [] (sh, M2, nx, zl) K := by
  intro G
  induction G with
  | zero => intro i M2 y4 h1; omega
  | succ G ih =>
    intro i M2 y4 h1 h2 h3 a1 a2 a3
    have e168 : M2 168 5 = M 168 5 := by rw [a3 168 (by decide)]
    have e171 := a3 171 (by decide)
    have e180 := a3 180 (by decide)
    have ex : M2 179 x = M 179 x := by
      by_cases e : x < i
      · rw [a1 x hx.1 e]
        exact dlq_x M x
      · exact a2 x (by omega)
    refine s257_130 d K _ _ _ ?_
    refine ⟨by omega, fun w => ?_, fun w => ?_⟩
    · refine ⟨by omega, ?_⟩
      refine k _ (fun j j0 j1 => ?_) ?_ (fun c c1 c2 => ?_)
      · rw [um_ne (by decide)]
        exact a1 j j0 (by omega)
      · rw [um_at, e180]
      · rw [um_ne c2]
        exact a3 c c1
    · have hi : i < M 168 5 := by omega
      have q1 := hr i h2 hi
      have q4 := (hr x hx.1 hx.2).1
      have q2 := (hr x hx.1 hx.2).2 hk
      have ei := a2 i (by omega)
      have ST : ∀ (v : Int) (y : Int), v = dlq M x i → b257_207 d (fW d kd257 K) K [some (fx 168), some (ti x), some (ti y2), some (ti i), some (ti y)] [ti v, ti i, fx 179] (sh, M2, nx, zl) := by
        intro v y hv
        refine ⟨by omega, ?_⟩
        refine ih (i + 1) _ _ (by omega) (by omega) (by omega) ?_ ?_ ?_
        · intro j j0 j1
          rw [um_at]
          by_cases e : j = i
          · rw [e, ur_at, hv]
          · rw [ur_ne e]
            exact a1 j j0 (by omega)
        · intro j j0
          rw [um_at, ur_ne (by omega)]
          exact a2 j (by omega)
        · intro c hc
          rw [um_ne hc]
          exact a3 c hc
      have r1 : M2 171 i = M 171 i := by rw [e171]
      have r2 : M2 171 x = M 171 x := by rw [e171]
      have r3 : M2 180 x = M 180 x := by rw [e180]
      refine ⟨by omega, ?_⟩
      refine ⟨by omega, ?_⟩
      refine ⟨by omega, fun w2 => ?_, fun w2 => ?_⟩
      · refine ⟨by omega, fun _ => ?_, fun z => by omega⟩
        refine ⟨by omega, ?_⟩
        refine ST _ _ ?_
        unfold dlq
        rw [ei, if_neg (fun z => w2 (by rw [r1, r2]; exact z.1))]
      · have q3 := q1.2 (by omega)
        refine ⟨by omega, ?_⟩
        refine ⟨by omega, ?_⟩
        refine ⟨by omega, fun w3 => ?_, fun w3 => ?_⟩
        · refine ⟨by omega, fun _ => ?_, fun z => by omega⟩
          refine ⟨by omega, ?_⟩
          refine ST _ _ ?_
          unfold dlq
          rw [ei, if_neg (fun z => by have := z.2; omega)]
        · refine ⟨by omega, fun z => by omega, fun _ => ?_⟩
          refine ⟨by omega, ?_⟩
          refine ⟨by omega, ?_⟩
          refine ST _ _ ?_
          unfold dlq
          rw [ei, if_pos ⟨by omega, by omega⟩, r3]
end MFORGET
