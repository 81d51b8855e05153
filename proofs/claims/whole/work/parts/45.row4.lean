/-! THE CLASS'S ROWS of bytes: word, indexOf, putAll, putEight -/
theorem nI_div {sz : Nat} (hs : sz < 2 ^ 31) : (nI sz / (Int8.ofInt 8).toInt32).toInt = ((sz / 8 : Nat) : Int) := by
  rw [Int32.toInt_div, nI_int hs, show ((Int8.ofInt 8).toInt32).toInt = 8 by decide]
  have e : (sz : Int).tdiv 8 = ((sz / 8 : Nat) : Int) := by
    rw [Int.tdiv_eq_ediv_of_nonneg (by omega)]
    omega
  rw [e]
  apply Int.bmod_eq_of_le <;> omega
/-- the first k bytes of a word -/
def wd (g : Nat → Int32) (sz : Nat) (i : Int32) : Nat → Int64
  | 0 => 0
  | k + 1 => if 0 ≤ i.toInt ∧ 8 * i.toInt + k < sz then wd g sz i k ||| (((g (8 * i.toInt.toNat + k)).toInt64 &&& 255) <<< (((Int8.ofInt 8).toInt32 * nI k).toInt64 &&& 63)) else wd g sz i k
theorem nI_8 (i : Nat) : (Int8.ofInt 8).toInt32 * nI i = nI (8 * i) := by
  show Int32.ofNat 8 * Int32.ofNat i = Int32.ofNat (8 * i)
  rw [Int32.ofNat_mul]
section ROWT
variable {d a b n : Nat} {h : eg_H} {s : rs} {x : Int32} {K : Option Value → eg_H → Prop}
theorem word_Y (hab : a ≠ b) (hn : n < 2 ^ 31) (hs : s.2.1 ≤ n) (k : K (some (.long (wd s.1 s.2.1 x 8))) (rowH h a b n s)) : eg_Y cl kY 3 mt (d + 1) 23 [.ref a, .int x] (rowH h a b n s) K := by
  refine eg_Y.of (w := kd23) rfl rfl ?_
  refine g_p 1 rfl rfl rfl rfl ?_
  refine g_v 2 _ rfl rfl rfl rfl ?_
  refine g_p 3 rfl rfl rfl rfl ?_
  refine g_v 5 _ rfl rfl rfl rfl ?_
  have L : ∀ (mm m : Nat), m ≤ 8 → 8 ≤ m + mm → eg_K cl kY 3 mt d (some .long) kd23.2.2.2.2 (5, [some (.ref a), some (.int x), some (.long (wd s.1 s.2.1 x m)), none, some (.int (nI m))], [], rowH h a b n s) K := by
    intro mm
    induction mm with
    | zero =>
      intro m h1 h2
      have e : m = 8 := by omega
      subst e
      refine g_v 7 _ rfl rfl rfl rfl ?_
      refine g_p 9 rfl rfl rfl rfl ?_
      refine g_icmp 73 12 rfl rfl rfl (fun _ => ?_) (fun hc => by cases hc)
      refine g_v 74 _ rfl rfl rfl rfl ?_
      exact g_ret rfl k
    | succ mm ih =>
      intro m h1 h2
      by_cases hm : m = 8
      · exact ih m h1 (by omega)
      refine g_v 7 _ rfl rfl rfl rfl ?_
      refine g_p 9 rfl rfl rfl rfl ?_
      refine g_icmp 73 12 rfl rfl rfl (fun hc => ?_) (fun _ => ?_)
      · have hc2 : eg_cnd .ge (nI m) (nI 8) = true := hc
        rw [cnd_ge (by omega) (by omega)] at hc2
        exact absurd (of_decide_eq_true hc2) (by omega)
      have NX : eg_K cl kY 3 mt d (some .long) kd23.2.2.2.2 (67, [some (.ref a), some (.int x), some (.long (wd s.1 s.2.1 x (m + 1))), none, some (.int (nI m))], [], rowH h a b n s) K := by
        refine g_v 70 _ rfl rfl rfl rfl ?_
        refine g_b 5 rfl rfl rfl ?_
        have e2 : nI m + Int32.ofInt 1 = nI (m + 1) := nI_1 m
        show eg_K cl kY 3 mt d (some .long) kd23.2.2.2.2 (5, [some (.ref a), some (.int x), some (.long (wd s.1 s.2.1 x (m + 1))), none, some (.int (nI m + Int32.ofInt 1))], [], rowH h a b n s) K
        rw [e2]
        exact ih (m + 1) (by omega) (by omega)
      by_cases hx : 0 ≤ x.toInt ∧ 8 * x.toInt + m < s.2.1
      · have e : wd s.1 s.2.1 x (m + 1) = wd s.1 s.2.1 x m ||| (((s.1 (8 * x.toInt.toNat + m)).toInt64 &&& 255) <<< (((Int8.ofInt 8).toInt32 * nI m).toInt64 &&& 63)) := if_pos hx
        have ex := i32_nI (x := x) hx.1
        generalize hi : x.toInt.toNat = i at e ex
        have hi2 : 8 * i + m < s.2.1 := by omega
        refine g_v 13 _ rfl rfl rfl rfl ?_
        refine g_if 67 16 rfl rfl rfl (fun hc => ?_) (fun _ => ?_)
        · have := of_decide_eq_true (cnd_i.symm.trans hc)
          exact absurd (show x.toInt < 0 from this) (by omega)
        refine g_v 17 _ rfl rfl rfl rfl ?_
        refine g_v 18 _ rfl rfl rfl rfl ?_
        refine g_get 21 rfl rfl rfl (rowH_a h a b n s) rfl rfl ?_
        refine g_p 23 rfl rfl rfl rfl ?_
        refine g_p 24 rfl rfl rfl rfl ?_
        refine g_icmp 67 27 rfl rfl rfl (fun hc => ?_) (fun _ => ?_)
        · have h3 := of_decide_eq_true (cnd_i.symm.trans hc)
          replace h3 : (nI s.2.1 / (Int8.ofInt 8).toInt32).toInt < x.toInt := h3
          rw [nI_div (by omega)] at h3
          omega
        refine g_p 29 rfl rfl rfl rfl ?_
        refine g_v 30 _ rfl rfl rfl rfl ?_
        refine g_p 31 rfl rfl rfl rfl ?_
        refine g_v 33 _ rfl rfl rfl rfl ?_
        refine g_p 34 rfl rfl rfl rfl ?_
        refine g_v 35 _ rfl rfl rfl rfl ?_
        refine g_get 38 rfl rfl rfl (rowH_a h a b n s) rfl rfl ?_
        refine g_icmp 67 41 rfl rfl rfl (fun hc => ?_) (fun _ => ?_)
        · have hc2 : eg_cnd .ge ((Int8.ofInt 8).toInt32 * x + nI m) (nI s.2.1) = true := hc
          rw [ex, nI_8, nI_pl, cnd_ge (by omega) (by omega)] at hc2
          exact absurd (of_decide_eq_true hc2) (by omega)
        refine g_v 42 _ rfl rfl rfl rfl ?_
        refine g_v 43 _ rfl rfl rfl rfl ?_
        refine g_get 46 rfl rfl rfl (rowH_a h a b n s) rfl rfl ?_
        refine g_p 48 rfl rfl rfl rfl ?_
        refine g_v 49 _ rfl rfl rfl rfl ?_
        refine g_p 50 rfl rfl rfl rfl ?_
        refine g_v 52 _ rfl rfl rfl rfl ?_
        refine g_p 53 rfl rfl rfl rfl ?_
        have e3 : (Int8.ofInt 8).toInt32 * x + nI m = nI (8 * i + m) := by rw [ex, nI_8, nI_pl]
        refine g_bald (i := nI (8 * i + m)) 54 rfl (rowH_b hab) rfl (eg_in_nI (by omega) hn) rfl ?_ |> fun q => by
          show eg_K cl kY 3 mt d (some .long) kd23.2.2.2.2 (53, _, .int ((Int8.ofInt 8).toInt32 * x + nI m) :: _, _) K
          rw [e3]
          exact q
        rw [nI_clamp (by omega)]
        refine g_p 55 rfl rfl rfl rfl ?_
        refine g_h 58 rfl rfl rfl rfl ?_
        refine g_p 59 rfl rfl rfl rfl ?_
        refine g_p 61 rfl rfl rfl rfl ?_
        refine g_v 63 _ rfl rfl rfl rfl ?_
        refine g_p 64 rfl rfl rfl rfl ?_
        refine g_p 65 rfl rfl rfl rfl ?_
        refine g_p 66 rfl rfl rfl rfl ?_
        refine g_v 67 _ rfl rfl rfl rfl ?_
        rw [e] at NX
        exact NX
      · have e : wd s.1 s.2.1 x (m + 1) = wd s.1 s.2.1 x m := if_neg hx
        rw [e] at NX
        refine g_v 13 _ rfl rfl rfl rfl ?_
        refine g_if 67 16 rfl rfl rfl (fun _ => NX) (fun hc => ?_)
        have h0 : ¬ x.toInt < 0 := of_decide_eq_false (cnd_i.symm.trans hc)
        have ex := i32_nI (x := x) (by omega)
        refine g_v 17 _ rfl rfl rfl rfl ?_
        refine g_v 18 _ rfl rfl rfl rfl ?_
        refine g_get 21 rfl rfl rfl (rowH_a h a b n s) rfl rfl ?_
        refine g_p 23 rfl rfl rfl rfl ?_
        refine g_p 24 rfl rfl rfl rfl ?_
        refine g_icmp 67 27 rfl rfl rfl (fun _ => NX) (fun hc => ?_)
        have h3 := of_decide_eq_false (cnd_i.symm.trans hc)
        replace h3 : ¬ (nI s.2.1 / (Int8.ofInt 8).toInt32).toInt < x.toInt := h3
        rw [nI_div (by omega)] at h3
        refine g_p 29 rfl rfl rfl rfl ?_
        refine g_v 30 _ rfl rfl rfl rfl ?_
        refine g_p 31 rfl rfl rfl rfl ?_
        refine g_v 33 _ rfl rfl rfl rfl ?_
        refine g_p 34 rfl rfl rfl rfl ?_
        refine g_v 35 _ rfl rfl rfl rfl ?_
        refine g_get 38 rfl rfl rfl (rowH_a h a b n s) rfl rfl ?_
        refine g_icmp 67 41 rfl rfl rfl (fun _ => NX) (fun hc => ?_)
        have hc2 : eg_cnd .ge ((Int8.ofInt 8).toInt32 * x + nI m) (nI s.2.1) = false := hc
        rw [ex, nI_8, nI_pl, cnd_ge (by omega) (by omega)] at hc2
        exact absurd (of_decide_eq_false hc2) (by omega)
  exact L 8 0 (by omega) (by omega)
/-- the first byte of a row that is y, from i on; m more -/
def ixo (g : Nat → Int32) (y : Int32) : Nat → Nat → Int32
  | 0, _ => Int32.ofInt (-1)
  | m + 1, i => if g i = y then nI i else ixo g y m (i + 1)
theorem indexOf_Y (hab : a ≠ b) (hn : n < 2 ^ 31) (hs : s.2.1 ≤ n) (k : K (some (.int (ixo s.1 x s.2.1 0))) (rowH h a b n s)) : eg_Y cl kY 3 mt (d + 1) 27 [.ref a, .int x] (rowH h a b n s) K := by
  refine eg_Y.of (w := kd27) rfl rfl ?_
  refine g_p 1 rfl rfl rfl rfl ?_
  refine g_v 2 _ rfl rfl rfl rfl ?_
  have L : ∀ (m i : Nat), i + m = s.2.1 → K (some (.int (ixo s.1 x m i))) (rowH h a b n s) → eg_K cl kY 3 mt d (some .int) kd27.2.2.2.2 (2, [some (.ref a), some (.int x), some (.int (nI i))], [], rowH h a b n s) K := by
    intro m
    induction m with
    | zero =>
      intro i hi q
      refine g_v 3 _ rfl rfl rfl rfl ?_
      refine g_v 4 _ rfl rfl rfl rfl ?_
      refine g_get 7 rfl rfl rfl (rowH_a h a b n s) rfl rfl ?_
      refine g_icmp 28 10 rfl rfl rfl (fun _ => ?_) (fun hc => ?_)
      · refine g_p 29 rfl rfl rfl rfl ?_
        exact g_ret rfl q
      · have hc2 : eg_cnd .ge (nI i) (nI s.2.1) = false := hc
        rw [cnd_ge (by omega) (by omega)] at hc2
        exact absurd (of_decide_eq_false hc2) (by omega)
    | succ m ih =>
      intro i hi q
      refine g_v 3 _ rfl rfl rfl rfl ?_
      refine g_v 4 _ rfl rfl rfl rfl ?_
      refine g_get 7 rfl rfl rfl (rowH_a h a b n s) rfl rfl ?_
      refine g_icmp 28 10 rfl rfl rfl (fun hc => ?_) (fun _ => ?_)
      · have hc2 : eg_cnd .ge (nI i) (nI s.2.1) = true := hc
        rw [cnd_ge (by omega) (by omega)] at hc2
        exact absurd (of_decide_eq_true hc2) (by omega)
      refine g_v 11 _ rfl rfl rfl rfl ?_
      refine g_get 14 rfl rfl rfl (rowH_a h a b n s) rfl rfl ?_
      refine g_v 15 _ rfl rfl rfl rfl ?_
      refine g_bald 16 rfl (rowH_b hab) rfl (eg_in_nI (by omega) hn) rfl ?_
      rw [nI_clamp (by omega)]
      refine g_v 17 _ rfl rfl rfl rfl ?_
      refine g_icmp 22 20 rfl rfl rfl (fun hc => ?_) (fun hc => ?_)
      · have h1 : ¬ s.1 i = x := of_decide_eq_true (show decide (¬ s.1 i = x) = true from hc)
        simp only [ixo] at q
        rw [if_neg h1] at q
        refine g_v 25 _ rfl rfl rfl rfl ?_
        refine g_b 2 rfl rfl rfl ?_
        have e2 : nI i + Int32.ofInt 1 = nI (i + 1) := nI_1 i
        show eg_K cl kY 3 mt d (some .int) kd27.2.2.2.2 (2, [some (.ref a), some (.int x), some (.int (nI i + Int32.ofInt 1))], [], rowH h a b n s) K
        rw [e2]
        exact ih (i + 1) (by omega) q
      · have h1 : s.1 i = x := Decidable.not_not.1 (of_decide_eq_false (show decide (¬ s.1 i = x) = false from hc))
        simp only [ixo] at q
        rw [if_pos h1] at q
        refine g_v 21 _ rfl rfl rfl rfl ?_
        exact g_ret rfl q
  exact L s.2.1 0 (by omega) k
end ROWT
