/-! THE LAW'S RUN out of what stands behind the constructors -/
/-- the law's answer, within the room -/
def law_K : Option Value → eg_H → Prop := fun v h2 => v = some (.int 1) ∧ h2.2.1 ≤ 3 + 350723 ∧ h2.2.2 ≤ 8050080
def law_at (L : Nat) (xs : Nat → Int32) : Prop := ∃ (n d : Nat) (h2 : eg_H), d ≤ 1000 ∧ eg_run cl kY 3 (some .boolean) law_M (eg_go cl kY 3 mt n d) n (0, [some (.ref 0), none, none, none], [], eg_h0 L xs) = some (some (.int 1), h2) ∧ h2.2.1 ≤ 3 + 350723 ∧ h2.2.2 ≤ 8050080
theorem tel_ck : ((List.range 19).all fun j => decide (ev_d (.int (Int32.ofNat 0)) (bf_get Sa0_1.2.2.2 j) = st_tel j)) = true := by decide +kernel
theorem fix_ck : ((List.range 15).all fun j => decide (ev_d (.int (Int32.ofNat 0)) (bf_get Sa0_2.2.2.2 j) = st_fix j)) = true := by decide +kernel
theorem st_out (l : List Int32) {j : Nat} (h : l.length ≤ j) : (Value.int (l.getD j 0)) = .int 0 := by
  rw [List.getD_eq_getElem?_getD, List.getElem?_eq_none h]
  rfl
/-- the cells at the law's entry, as the quick machine has them -/
theorem h0_eq {σ : sg} {L : Nat} {xs : Nat → Int32} (hc : σ.2.2 = some (.inl (.int, L, fun j => .int (xs j)))) : eh_h σ Sa0.2.2 = eg_h0 L xs := by
  refine Prod.ext ?_ rfl
  funext k
  match k with
  | 0 => rw [eh_0, hc]; rfl
  | 1 =>
    show some (ec_c σ Sa0_1) = some (.inl (.int, 19, st_tel))
    have e : ec_c σ Sa0_1 = .inl (.int, 19, fun i => bif Nat.blt i 19 then sv σ (ev_d (.int (Int32.ofNat 0)) (bf_get Sa0_1.2.2.2 i)) else .int 0) := rfl
    rw [e]
    congr 4
    funext i
    by_cases hi : i < 19
    · rw [blt_t hi]
      have := List.all_eq_true.1 tel_ck i (List.mem_range.2 hi)
      have e2 := of_decide_eq_true this
      show sv σ (ev_d (.int (Int32.ofNat 0)) (bf_get Sa0_1.2.2.2 i)) = _
      rw [e2]
      rfl
    · have e3 : Nat.blt i 19 = false := by
        cases q : Nat.blt i 19 with
        | false => rfl
        | true => exact absurd (bl q) hi
      rw [e3]
      exact (st_out ([16, 17, 18, 0, 8, 7, 9, 6, 10, 5, 11, 4, 12, 3, 13, 2, 14, 1, 15] : List Int32) (show 19 ≤ i by omega)).symm
  | 2 =>
    show some (ec_c σ Sa0_2) = some (.inl (.int, 15, st_fix))
    have e : ec_c σ Sa0_2 = .inl (.int, 15, fun i => bif Nat.blt i 15 then sv σ (ev_d (.int (Int32.ofNat 0)) (bf_get Sa0_2.2.2.2 i)) else .int 0) := rfl
    rw [e]
    congr 4
    funext i
    by_cases hi : i < 15
    · rw [blt_t hi]
      have := List.all_eq_true.1 fix_ck i (List.mem_range.2 hi)
      have e2 := of_decide_eq_true this
      show sv σ (ev_d (.int (Int32.ofNat 0)) (bf_get Sa0_2.2.2.2 i)) = _
      rw [e2]
      rfl
    · have e3 : Nat.blt i 15 = false := by
        cases q : Nat.blt i 15 with
        | false => rfl
        | true => exact absurd (bl q) hi
      rw [e3]
      exact (st_out ([0, 32, 32, 24, 24, 24, 20, 20, 40, 56, 24, 28, 28, 24, 24] : List Int32) (show 15 ≤ i by omega)).symm
  | k + 3 =>
    rw [eh_no (h := Sa0.2.2) (by omega) (show ¬ k + 3 < 3 by omega)]
    rfl
/-- the law's run out of what stands behind the constructors -/
theorem law_of {σ : sg} {L : Nat} {xs : Nat → Int32} (hc : σ.2.2 = some (.inl (.int, L, fun j => .int (xs j)))) (hσ : ∀ j, j < 256 → (σ.1 j).toInt8.toInt32 = σ.1 j) (k : ewS σ law_K Sa2) : law_at L xs := by
  have hl : ft_ok σ ([], []) := ⟨(fun e he => by cases he), (fun e he => by cases he)⟩
  have k1 := ev_rs_ok hσ (ob_ok0 σ) hl _ (es_q_ok Sa2_r) k
  have k0 := ev_rs_ok hσ (ob_ok0 σ) hl _ (es_q_ok Sa1_r) k1
  obtain ⟨D, hD, v, h2, ⟨n, hn⟩, hv, h3, h4⟩ := k0
  have e : D = kdL := (Option.some.inj hD).symm
  subst e
  have hv2 : v = some (.int 1) := hv
  subst hv2
  refine ⟨n, 1000, h2, Nat.le_refl _, ?_, h3, h4⟩
  rw [← h0_eq hc]
  exact hn
