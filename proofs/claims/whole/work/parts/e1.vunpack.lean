/-! UNPACKING, the reference: fixed codes, the check, the end of a row -/
def fxR (q : Int) : Int := if q < 144 then 8 else if q < 256 then 9 else if q < 280 then 7 else if q < 288 then 8 else 5
theorem fx_ok : okL fxA 288 0 ∧ okL fxB 32 0 := by
  have h1 : smS fxA 288 = 32768 := by decide +kernel
  have h2 : smS fxB 32 = 32768 := by decide +kernel
  have r1 := (smS_eq fxA 288 (fun s _ => by unfold fxA; split <;> (try split) <;> (try split) <;> omega)).1
  have r2 := (smS_eq fxB 32 (fun s _ => by unfold fxB; omega)).1
  exact ⟨Or.inl (by rw [← r1]; exact h1), Or.inl (by rw [← r2]; exact h2)⟩
theorem bS_add (f : Int → Int) (E : Int) (a b : Nat) (st : St) : (bS f E b (bS f E a st).2).2 = (bS f E (a + b) st).2 := by
  cases st with
  | none => rfl
  | some q =>
    obtain ⟨p, o⟩ := q
    by_cases c1 : p + (a : Int) ≤ E
    · rw [bS_pos c1]
      show (bS f E b (some (p + (a : Int), o))).2 = _
      by_cases c2 : p + (a : Int) + (b : Int) ≤ E
      · rw [bS_pos c2, bS_pos (show p + ((a + b : Nat) : Int) ≤ E by omega)]
        show some (p + (a : Int) + (b : Int), o) = some (p + ((a + b : Nat) : Int), o)
        rw [show p + ((a + b : Nat) : Int) = p + (a : Int) + (b : Int) by omega]
      · rw [bS_neg c2, bS_neg (show ¬ p + ((a + b : Nat) : Int) ≤ E by omega)]
    · rw [bS_neg c1, bS_neg (show ¬ p + ((a + b : Nat) : Int) ≤ E by omega)]
      rfl
def beN (f : Int → Int) (q : Int) : Nat → Int
  | 0 => 0
  | j + 1 => 256 * beN f q j + f (q + j) % 256
theorem beN_rng (f : Int → Int) (q : Int) : ∀ j : Nat, 0 ≤ beN f q j ∧ beN f q j < 256 ^ j
  | 0 => by
    show (0 : Int) ≤ 0 ∧ (0 : Int) < 256 ^ 0
    decide
  | j + 1 => by
    have h := beN_rng f q j
    show 0 ≤ 256 * beN f q j + f (q + j) % 256 ∧ 256 * beN f q j + f (q + j) % 256 < 256 ^ (j + 1)
    rw [Int.pow_succ]
    omega
section VUNPACK
variable {d nx zl : Nat} {K : Option TV → FH → Prop} {sh : Nat → Option Shp} {M0 M : FM} {sc tc nS nT : Nat}
theorem makeFixed_Y (k : ∀ M2 : FM, (∀ q : Int, 0 ≤ q → q < 320 → M2 195 q = fxR q) → (∀ c : Nat, c ≠ 195 → M2 c = M c) → K none (sh, M2, nx, zl)) : fm_Y (d + 1) 293 [.ref 168] (sh, M, nx, zl) K := by
  refine m293 [fx 168] ?_
  have L : ∀ (N i : Nat) (M2 : FM), i + N = 320 → (∀ q : Int, 0 ≤ q → q < i → M2 195 q = fxR q) → (∀ c : Nat, c ≠ 195 → M2 c = M c) → fm_X d kd293 2 [some (fx 168), some (ti i)] [] (sh, M2, nx, zl) K := by
    intro N
    induction N with
    | zero =>
      intro i M2 a1 a2 a3
      refine s293_2 d K _ _ _ ?_
      refine ⟨by omega, fun w => k M2 (fun q q0 q1 => a2 q q0 (by omega)) a3, fun w => by omega⟩
    | succ N ih =>
      intro i M2 a1 a2 a3
      refine s293_2 d K _ _ _ ?_
      refine ⟨by omega, fun w => by omega, fun w => ?_⟩
      have ST : ∀ v : Int, v = fxR i → b293_63 d (fW d kd293 K) K [some (fx 168), some (ti i)] [ti v, ti (i : Int), fx 195] (sh, M2, nx, zl) := by
        intro v hv
        refine ⟨by omega, ?_⟩
        refine ih (i + 1) _ (by omega) (fun q q0 q1 => ?_) (fun c hc => by rw [um_ne hc]; exact a3 c hc)
        rw [um_at]
        by_cases eq : q = i
        · rw [eq, ur_at, hv]
        · rw [ur_ne eq]
          exact a2 q q0 (by omega)
      refine ⟨by omega, fun w2 => ?_, fun w2 => ST 8 (by unfold fxR; rw [if_pos (by omega)])⟩
      refine ⟨by omega, fun w3 => ?_, fun w3 => ST 9 (by unfold fxR; rw [if_neg (by omega), if_pos (by omega)])⟩
      refine ⟨by omega, fun w4 => ?_, fun w4 => ST 7 (by unfold fxR; rw [if_neg (by omega), if_neg (by omega), if_pos (by omega)])⟩
      refine ⟨by omega, fun w5 => ST 5 (by unfold fxR; rw [if_neg (by omega), if_neg (by omega), if_neg (by omega), if_neg (by omega)]), fun w5 => ST 8 (by unfold fxR; rw [if_neg (by omega), if_neg (by omega), if_neg (by omega), if_pos (by omega)])⟩
  exact L 320 0 M rfl (fun q q0 q1 => by omega) (fun _ _ => rfl)
theorem checkOf_Y {a na : Nat} {n : Int} (ha : shp sh a = some (.inl (.byte, na))) (hna : na ≤ 131072) (hn : 0 ≤ n) (hpn : n ≤ na) (k : K (some (tj (adV (sl (M a) 0 n.toNat)))) (sh, M, nx, zl)) : fm_Y (d + 1) 299 [.ref a, .int (Int32.ofInt 0), .int (Int32.ofInt n)] (sh, M, nx, zl) K := by
  refine m299 [gr a, ti 0, ti n] ?_
  have L : ∀ (N j : Nat), n.toNat - j < N → j ≤ n.toNat → fm_X d kd299 8 [some (gr a), some (ti 0), some (ti n), some (tj (ad (sl (M a) 0 j)).1), none, some (tj (ad (sl (M a) 0 j)).2), none, some (ti j)] [] (sh, M, nx, zl) K := by
    intro N
    induction N with
    | zero => intro j h1; omega
    | succ N ih =>
      intro j h1 h2
      have r := ad_rng (sl (M a) 0 j)
      refine s299_8 d K _ _ _ ?_
      refine ⟨by omega, fun w => ?_, fun w => ?_⟩
      · have ej : j = n.toNat := by omega
        subst ej
        unfold adV at k
        rw [Int.mul_comm] at k
        exact k
      · refine ⟨na, ha, by omega, ?_⟩
        refine ⟨by omega, ?_⟩
        refine ⟨by omega, ?_⟩
        refine ⟨by omega, ?_⟩
        have z := ih (j + 1) (by omega) (by omega)
        have e : ad (sl (M a) 0 (j + 1)) = adS (ad (sl (M a) 0 j)) (M a (0 + j) % 256) := by rw [sl_back, ad_back]
        rw [e, show ((j + 1 : Nat) : Int) = (j : Int) + 1 by omega, show (0 : Int) + (j : Int) = j by omega] at z
        exact z
  have z := L (n.toNat + 1) 0 (by omega) (by omega)
  exact z
end VUNPACK
