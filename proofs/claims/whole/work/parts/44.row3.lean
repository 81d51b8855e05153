/-! THE CLASS'S ROWS of bytes: eight, word, indexOf, putAll, putEight -/
/-- eight bytes from i on, highest last: the first m from above -/
def by8 (g : Nat → Int32) (i : Nat) : Nat → Int64
  | 0 => 0
  | m + 1 => (by8 g i m <<< (((Int8.ofInt 8).toInt32).toInt64 &&& 63)) ||| (ub g (i + (7 - m))).toInt64
def r8 (s : rs) (at_ : Int32) : Int64 := if 0 ≤ at_.toInt ∧ at_.toInt + 8 ≤ s.2.1 then by8 s.1 at_.toInt.toNat 8 else 0
section ROWS
variable {d a b n : Nat} {h : eg_H} {s : rs} {x : Int32} {K : Option Value → eg_H → Prop}
theorem eight_Y (hab : a ≠ b) (hn : n < 2 ^ 31) (hs : s.2.1 ≤ n) (k : K (some (.long (r8 s x))) (rowH h a b n s)) : eg_Y cl kY 3 mt (d + 1) 130 [.ref a, .int x] (rowH h a b n s) K := by
  refine eg_Y.of (w := kd130) rfl rfl ?_
  refine g_p 1 rfl rfl rfl rfl ?_
  refine g_v 2 _ rfl rfl rfl rfl ?_
  refine g_p 4 rfl rfl rfl rfl ?_
  refine g_v 6 _ rfl rfl rfl rfl ?_
  have hsub : (nI s.2.1 - (Int8.ofInt 8).toInt32).toInt = (s.2.1 : Int) - (8 : Nat) := nI_sub (c := 8) (by decide) (by omega) (by omega)
  by_cases hx : 0 ≤ x.toInt ∧ x.toInt + 8 ≤ s.2.1
  · have e : r8 s x = by8 s.1 x.toInt.toNat 8 := if_pos hx
    rw [e] at k
    have ex := i32_nI (x := x) (by omega)
    generalize hi : x.toInt.toNat = i at k ex
    have hi2 : i + 8 ≤ s.2.1 := by omega
    subst ex
    have L : ∀ (mm m : Nat), m ≤ 8 → 8 ≤ m + mm → ∀ y : Int32, y.toInt = 7 - (m : Int) → eg_K cl kY 3 mt d (some .long) kd130.2.2.2.2 (6, [some (.ref a), some (.int (nI i)), some (.long (by8 s.1 i m)), none, some (.int y)], [], rowH h a b n s) K := by
      intro mm
      induction mm with
      | zero =>
        intro m h1 h2 y hy
        have by8' : m = 8 := by omega
        subst by8'
        refine g_v 8 _ rfl rfl rfl rfl ?_
        refine g_if 52 11 rfl rfl rfl (fun _ => ?_) (fun hc => ?_)
        · refine g_v 53 _ rfl rfl rfl rfl ?_
          exact g_ret rfl k
        · have := of_decide_eq_false (cnd_i.symm.trans hc)
          exact absurd (show y.toInt < 0 by omega) this
      | succ mm ih =>
        intro m h1 h2 y hy
        by_cases hm : m = 8
        · exact ih m h1 (by omega) y hy
        refine g_v 8 _ rfl rfl rfl rfl ?_
        refine g_if 52 11 rfl rfl rfl (fun hc => ?_) (fun _ => ?_)
        · have := of_decide_eq_true (cnd_i.symm.trans hc)
          exact absurd (show y.toInt < 0 from this) (by omega)
        refine g_v 12 _ rfl rfl rfl rfl ?_
        refine g_if 52 15 rfl rfl rfl (fun hc => ?_) (fun _ => ?_)
        · have := of_decide_eq_true (cnd_i.symm.trans hc)
          exact absurd (show (nI i).toInt < 0 from this) (by omega)
        refine g_v 16 _ rfl rfl rfl rfl ?_
        refine g_v 17 _ rfl rfl rfl rfl ?_
        refine g_get 20 rfl rfl rfl (rowH_a h a b n s) rfl rfl ?_
        refine g_p 22 rfl rfl rfl rfl ?_
        refine g_p 23 rfl rfl rfl rfl ?_
        refine g_icmp 52 26 rfl rfl rfl (fun hc => ?_) (fun _ => ?_)
        · have h3 := of_decide_eq_true (cnd_i.symm.trans hc)
          replace h3 : (nI s.2.1 - (Int8.ofInt 8).toInt32).toInt < (nI i).toInt := h3
          rw [hsub] at h3
          omega
        have ey : y = nI (7 - m) := i32_eq (by rw [hy, nI_int (by omega)]; omega)
        refine g_v 27 _ rfl rfl rfl rfl ?_
        refine g_p 29 rfl rfl rfl rfl ?_
        refine g_p 30 rfl rfl rfl rfl ?_
        refine g_v 31 _ rfl rfl rfl rfl ?_
        refine g_get 34 rfl rfl rfl (rowH_a h a b n s) rfl rfl ?_
        refine g_v 35 _ rfl rfl rfl rfl ?_
        refine g_v 37 _ rfl rfl rfl rfl ?_
        refine g_p 38 rfl rfl rfl rfl ?_
        dsimp only
        rw [ey, nI_pl]
        refine g_bald 39 rfl (rowH_b hab) rfl (eg_in_nI (by omega) hn) rfl ?_
        rw [nI_clamp (by omega)]
        refine g_p 42 rfl rfl rfl rfl ?_
        refine g_p 43 rfl rfl rfl rfl ?_
        refine g_p 44 rfl rfl rfl rfl ?_
        refine g_p 45 rfl rfl rfl rfl ?_
        refine g_v 46 _ rfl rfl rfl rfl ?_
        refine g_v 49 _ rfl rfl rfl rfl ?_
        refine g_b 6 rfl rfl rfl ?_
        refine ih (m + 1) (by omega) (by omega) _ ?_
        rw [← ey, Int32.toInt_add, hy, show (Int32.ofInt (-1)).toInt = -1 by decide]
        have : (7 - (m : Int) + -1).bmod (2 ^ 32) = 7 - (m : Int) + -1 := by apply Int.bmod_eq_of_le <;> omega
        rw [this]
        omega
    exact L 8 0 (by omega) (by omega) _ (by decide)
  · have e : r8 s x = 0 := if_neg hx
    rw [e] at k
    have E : eg_K cl kY 3 mt d (some .long) kd130.2.2.2.2 (52, [some (.ref a), some (.int x), some (.long 0), none, some (.int (Int8.ofInt 7).toInt32)], [], rowH h a b n s) K := by
      refine g_v 53 _ rfl rfl rfl rfl ?_
      exact g_ret rfl k
    refine g_v 8 _ rfl rfl rfl rfl ?_
    refine g_if 52 11 rfl rfl rfl (fun hc => by cases hc) (fun _ => ?_)
    refine g_v 12 _ rfl rfl rfl rfl ?_
    refine g_if 52 15 rfl rfl rfl (fun _ => E) (fun hc => ?_)
    have h0 : ¬ x.toInt < 0 := of_decide_eq_false (cnd_i.symm.trans hc)
    refine g_v 16 _ rfl rfl rfl rfl ?_
    refine g_v 17 _ rfl rfl rfl rfl ?_
    refine g_get 20 rfl rfl rfl (rowH_a h a b n s) rfl rfl ?_
    refine g_p 22 rfl rfl rfl rfl ?_
    refine g_p 23 rfl rfl rfl rfl ?_
    refine g_icmp 52 26 rfl rfl rfl (fun _ => E) (fun hc => ?_)
    have h3 := of_decide_eq_false (cnd_i.symm.trans hc)
    replace h3 : ¬ (nI s.2.1 - (Int8.ofInt 8).toInt32).toInt < x.toInt := h3
    rw [hsub] at h3
    omega
end ROWS
