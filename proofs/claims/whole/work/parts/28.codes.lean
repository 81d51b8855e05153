/-! THE CLASS'S CODES: rows of lengths -/
def fixS (k : Nat) : Int32 := if k < 144 then 8 else if k < 256 then 9 else if k < 280 then 7 else 8
section CODES
variable {d : Nat} {h : eg_H} {a b n : Nat} {q0 q2 q3 q4 q5 : Value} {f : Nat → Value}
/-- fixSymbols's loop: the first i lengths stand -/
theorem fixSymbols_loop (ha : h.1 a = some (.inr (6, [q0, .ref b, q2, q3, q4, q5]))) (hab : a ≠ b) (hn : n < 2 ^ 31) (hb3 : 3 ≤ b) : ∀ (m i : Nat), i ≤ n → n ≤ i + m →
    eg_W cl kY 3 mt d none kd7.2.2.2.2 (2, [some (.ref a), some (.int (nI i))], [], eg_upd h b (.inl (.int, n, fun k => if k < i then .int (fixS k) else f k))) none (eg_upd h b (.inl (.int, n, fun k => if k < n then .int (fixS k) else f k))) := by
  have head : ∀ i, i ≤ n → (i < n → eg_W cl kY 3 mt d none kd7.2.2.2.2 (11, [some (.ref a), some (.int (nI i))], [], eg_upd h b (.inl (.int, n, fun k => if k < i then .int (fixS k) else f k))) none (eg_upd h b (.inl (.int, n, fun k => if k < n then .int (fixS k) else f k)))) →
      eg_W cl kY 3 mt d none kd7.2.2.2.2 (2, [some (.ref a), some (.int (nI i))], [], eg_upd h b (.inl (.int, n, fun k => if k < i then .int (fixS k) else f k))) none (eg_upd h b (.inl (.int, n, fun k => if k < n then .int (fixS k) else f k))) := by
    intro i hi k
    refine w_v 3 _ rfl rfl rfl rfl ?_
    refine w_v 4 _ rfl rfl rfl rfl ?_
    refine w_get 7 rfl rfl rfl ((eg_upd_ne hab).trans ha) rfl rfl ?_
    refine w_len 8 rfl (eg_upd_at _ _ _) rfl ?_
    refine w_icmp 61 11 rfl rfl rfl (fun hc => ?_) (fun hc => ?_)
    · have h1 : n ≤ i := (nI_leI (by omega) (by omega)).mp (of_decide_eq_true (show decide (nI n ≤ nI i) = true from hc))
      have h2 : i = n := by omega
      subst h2
      exact eg_W.ret rfl rfl
    · have h1 : ¬ n ≤ i := fun z => of_decide_eq_false (show decide (nI n ≤ nI i) = false from hc) ((nI_leI (by omega) (by omega)).mpr z)
      exact k (by omega)
  intro m
  induction m with
  | zero => exact fun i hi hm => head i hi (fun z => absurd z (by omega))
  | succ m ih =>
    intro i hi hm
    refine head i hi (fun hlt => ?_)
    have K : ∀ x : Int32, x = fixS i → eg_W cl kY 3 mt d none kd7.2.2.2.2 (54, [some (.ref a), some (.int (nI i))], [.int x, .int (nI i), .ref b], eg_upd h b (.inl (.int, n, fun k => if k < i then .int (fixS k) else f k))) none (eg_upd h b (.inl (.int, n, fun k => if k < n then .int (fixS k) else f k))) := by
      intro x hx
      refine w_iast 55 rfl (eg_upd_at _ _ _) rfl rfl (eg_in_nI hlt hn) hb3 rfl ?_
      rw [eg_upd2]
      refine w_v 58 _ rfl rfl rfl rfl ?_
      refine w_b 2 rfl rfl rfl ?_
      have e1 : (updV (fun k => if k < i then Value.int (fixS k) else f k) (nI i).toNatClampNeg (narrow .int (.int x))) = fun k => if k < i + 1 then Value.int (fixS k) else f k := by
        funext k
        rw [nI_clamp (by omega)]
        simp only [updV]
        by_cases e : k = i
        · subst e
          rw [if_pos rfl, if_pos (by omega), hx]
          rfl
        · by_cases e2 : k < i
          · rw [if_neg e, if_pos e2, if_pos (by omega)]
          · rw [if_neg e, if_neg e2, if_neg (by omega)]
      rw [e1]
      have e2 : nI i + Int32.ofInt 1 = nI (i + 1) := nI_1 i
      show eg_W cl kY 3 mt d none kd7.2.2.2.2 (2, [some (.ref a), some (.int (nI i + Int32.ofInt 1))], [], _) none _
      rw [e2]
      exact ih (i + 1) (by omega) (by omega)
    have g144 : (Int16.ofInt 144).toInt32 = nI 144 := by decide
    have g256 : (Int16.ofInt 256).toInt32 = nI 256 := by decide
    have g280 : (Int16.ofInt 280).toInt32 = nI 280 := by decide
    refine w_v 12 _ rfl rfl rfl rfl ?_
    refine w_get 15 rfl rfl rfl ((eg_upd_ne hab).trans ha) rfl rfl ?_
    refine w_v 16 _ rfl rfl rfl rfl ?_
    refine w_v 17 _ rfl rfl rfl rfl ?_
    refine w_p 20 rfl rfl rfl rfl ?_
    rw [g144]
    refine w_icmp 28 23 rfl rfl rfl (fun hc => ?_) (fun hc => ?_)
    · have h1 : 144 ≤ i := (nI_leI (by omega) (by omega)).mp (of_decide_eq_true hc)
      refine w_v 29 _ rfl rfl rfl rfl ?_
      refine w_p 32 rfl rfl rfl rfl ?_
      rw [g256]
      refine w_icmp 40 35 rfl rfl rfl (fun hc => ?_) (fun hc => ?_)
      · have h2 : 256 ≤ i := (nI_leI (by omega) (by omega)).mp (of_decide_eq_true hc)
        refine w_v 41 _ rfl rfl rfl rfl ?_
        refine w_p 44 rfl rfl rfl rfl ?_
        rw [g280]
        refine w_icmp 52 47 rfl rfl rfl (fun hc => ?_) (fun hc => ?_)
        · have h3 : 280 ≤ i := (nI_leI (by omega) (by omega)).mp (of_decide_eq_true hc)
          refine w_p 54 rfl rfl rfl rfl ?_
          exact K _ (by unfold fixS; rw [if_neg (by omega), if_neg (by omega), if_neg (by omega)]; decide)
        · have h3 : ¬ 280 ≤ i := fun z => of_decide_eq_false hc ((nI_leI (by omega) (by omega)).mpr z)
          refine w_p 49 rfl rfl rfl rfl ?_
          refine w_b 54 rfl rfl rfl ?_
          exact K _ (by unfold fixS; rw [if_neg (by omega), if_neg (by omega), if_pos (by omega)]; decide)
      · have h2 : ¬ 256 ≤ i := fun z => of_decide_eq_false hc ((nI_leI (by omega) (by omega)).mpr z)
        refine w_p 37 rfl rfl rfl rfl ?_
        refine w_b 54 rfl rfl rfl ?_
        exact K _ (by unfold fixS; rw [if_neg (by omega), if_pos (by omega)]; decide)
    · have h1 : ¬ 144 ≤ i := fun z => of_decide_eq_false hc ((nI_leI (by omega) (by omega)).mpr z)
      refine w_p 25 rfl rfl rfl rfl ?_
      refine w_b 54 rfl rfl rfl ?_
      exact K _ (by unfold fixS; rw [if_pos (by omega)]; decide)
/-- Code.fixSymbols(): the lengths of the fixed symbols -/
theorem fixSymbols_V (ha : h.1 a = some (.inr (6, [q0, .ref b, q2, q3, q4, q5]))) (hb : h.1 b = some (.inl (.int, n, f))) (hab : a ≠ b) (hn : n < 2 ^ 31) (hb3 : 3 ≤ b) :
    eg_V cl kY 3 mt (d + 1) 7 [.ref a] h none (eg_upd h b (.inl (.int, n, fun k => if k < n then .int (fixS k) else f k))) := by
  refine eg_V.of (w := kd7) rfl rfl ?_
  refine w_p 1 rfl rfl rfl rfl ?_
  refine w_v 2 _ rfl rfl rfl rfl ?_
  have e : h = eg_upd h b (.inl (.int, n, fun k => if k < 0 then .int (fixS k) else f k)) := by
    have e2 : (fun k => if k < 0 then Value.int (fixS k) else f k) = f := by funext k; rw [if_neg (by omega)]
    rw [e2]
    exact (eg_upd_self hb).symm
  have K := fixSymbols_loop (d := d) (f := f) ha hab hn hb3 n 0 (Nat.zero_le _) (by omega)
  rw [← e] at K
  exact K
end CODES
