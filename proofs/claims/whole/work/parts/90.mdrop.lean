/-! CALLS of both: drop, the reference's loops -/
/-- a name's place when n bytes at s have gone -/
def dlp (s n v : Int) : Int := if v > s then v - n else v
section MDROP
variable {d nx zl : Nat} {K : Option TV → FH → Prop} {sh : Nat → Option Shp} {M : FM} {F x s n p : Int}
/-- names' places come down; then the node has a tie less, and goes if it was the last -/
theorem md228 (hE : 0 ≤ M 168 20 ∧ M 168 20 ≤ 2000) (hx : 0 ≤ x ∧ x < 2000) (hc : -2147483647 ≤ M 177 x ∧ M 177 x ≤ 2147483647) (hs : -2147483648 ≤ s ∧ s ≤ 2147483647) (hv : ∀ i : Int, 0 ≤ i → i < M 168 20 → -2147483648 ≤ M 185 i ∧ M 185 i ≤ 2147483647)
    (k : ∀ M2 : FM, (∀ i : Int, 0 ≤ i → i < M 168 20 → M2 185 i = dlp s n (M 185 i)) → M2 177 = ur (M 177) x (M 177 x - 1) → (∀ c : Nat, c ≠ 185 → c ≠ 177 → M2 c = M c) → (M 177 x ≠ 1 → K (some (ti x)) (sh, M2, nx, zl)) ∧ (M 177 x = 1 → fm_Y d 257 [.ref 168, .int (Int32.ofInt x)] (sh, M2, nx, zl) (fun w H2 => w = none ∧ K (some (ti x)) H2))) : ∀ (G : Nat) (i : Int) (M2 : FM), (M 168 20 - i).toNat < G → 0 ≤ i → i ≤ M 168 20 → (∀ j : Int, 0 ≤ j → j < i → M2 185 j = dlp s n (M 185 j)) → (∀ j : Int, i ≤ j → M2 185 j = M 185 j) → (∀ c : Nat, c ≠ 185 → M2 c = M c) → fm_X d kd255 228 [some (fx 168), some (ti F), some (ti n), some (ti p), some (ti x), some (ti s), some (ti i)] [] (sh, M2, nx, zl) K := by
  intro G
  induction G with
  | zero => intro i M2 h1; omega
  | succ G ih =>
    intro i M2 h1 h2 h3 a1 a2 a3
    have e168 := a3 168 (by decide)
    have e177 := a3 177 (by decide)
    have e20 : M2 168 20 = M 168 20 := by rw [e168]
    refine s255_228 d K _ _ _ ?_
    refine ⟨by omega, fun w => ?_, fun w => ?_⟩
    · refine ⟨by omega, ?_⟩
      refine ⟨by omega, ?_⟩
      refine ⟨by omega, ?_⟩
      obtain ⟨k1, k2⟩ := k (um M2 177 (ur (M2 177) x (M2 177 x - 1))) (fun j j0 j1 => by rw [um_ne (by decide)]; exact a1 j j0 (by omega)) (by rw [um_at, e177]) (fun c c1 c2 => by rw [um_ne c2]; exact a3 c c1)
      have ev : um M2 177 (ur (M2 177) x (M2 177 x - 1)) 177 x = M 177 x - 1 := by rw [um_at, ur_at, e177]
      refine ⟨by rw [ev]; omega, fun w2 => ?_, fun w2 => ?_⟩
      · rw [ev] at w2
        exact k1 (by omega)
      · rw [ev] at w2
        refine fm_Y.imp (k2 (by omega)) (fun v H2 e => ?_)
        obtain ⟨e1, e2⟩ := e
        subst e1
        exact e2
    · have ei := a2 i (by omega)
      have hvi := hv i h2 (by omega)
      refine ⟨by omega, ?_⟩
      have ST : ∀ v : Int, v = dlp s n (M 185 i) → b255_274 d (fW d kd255 K) K [some (fx 168), some (ti F), some (ti n), some (ti p), some (ti x), some (ti s), some (ti i)] [ti v, ti i, fx 185] (sh, M2, nx, zl) := by
        intro v hvv
        refine ⟨by omega, ?_⟩
        refine ih (i + 1) _ (by omega) (by omega) (by omega) ?_ ?_ ?_
        · intro j j0 j1
          rw [um_at]
          by_cases e : j = i
          · rw [e, ur_at, hvv]
          · rw [ur_ne e]
            exact a1 j j0 (by omega)
        · intro j j0
          rw [um_at, ur_ne (by omega)]
          exact a2 j (by omega)
        · intro c hcc
          rw [um_ne hcc]
          exact a3 c hcc
      refine ⟨by omega, fun w2 => ?_, fun w2 => ?_⟩
      · refine ⟨by omega, ?_⟩
        refine ST _ ?_
        unfold dlp
        rw [ei, if_neg (by omega)]
      · refine ⟨by omega, ?_⟩
        refine ST _ ?_
        unfold dlp
        rw [ei, if_pos (by omega)]
end MDROP
