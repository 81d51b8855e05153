/-! THE CLASS'S ROWS of bytes: what is read of them -/
theorem i32_nI {x : Int32} (h : 0 ≤ x.toInt) : x = nI x.toInt.toNat := by
  have h1 := i32_r x
  apply i32_eq
  have e : (nI x.toInt.toNat).toInt = ((x.toInt.toNat : Nat) : Int) := Int32.toInt_ofNat_of_lt (by omega)
  rw [e]
  omega
theorem nI_int {i : Nat} (h : i < 2 ^ 31) : (nI i).toInt = (i : Int) := Int32.toInt_ofNat_of_lt h
theorem nI_sub {sz c : Nat} {y : Int32} (hy : y.toInt = (c : Int)) (hs : sz < 2 ^ 31) (hc : c < 2 ^ 31) : (nI sz - y).toInt = (sz : Int) - c := by
  rw [Int32.toInt_sub, hy, nI_int hs]
  apply Int.bmod_eq_of_le <;> omega
theorem cnd_i {q : ClassFile.Cond} {x y : Int32} : eg_cnd q x y = (match q with
    | .eq => decide (x.toInt = y.toInt)
    | .ne => decide (¬ x.toInt = y.toInt)
    | .lt => decide (x.toInt < y.toInt)
    | .ge => decide (y.toInt ≤ x.toInt)
    | .gt => decide (y.toInt < x.toInt)
    | .le => decide (x.toInt ≤ y.toInt)) := by
  cases q with
  | eq =>
    show decide (x = y) = decide (x.toInt = y.toInt)
    rw [decide_eq_decide]
    exact Int32.toInt_inj.symm
  | ne =>
    show decide (¬ x = y) = decide (¬ x.toInt = y.toInt)
    rw [decide_eq_decide]
    exact not_congr Int32.toInt_inj.symm
  | lt =>
    show decide (x < y) = decide (x.toInt < y.toInt)
    rw [decide_eq_decide]
    exact Int32.lt_iff_toInt_lt
  | ge =>
    show decide (y ≤ x) = decide (y.toInt ≤ x.toInt)
    rw [decide_eq_decide]
    exact Int32.le_iff_toInt_le
  | gt =>
    show decide (y < x) = decide (y.toInt < x.toInt)
    rw [decide_eq_decide]
    exact Int32.lt_iff_toInt_lt
  | le =>
    show decide (x ≤ y) = decide (x.toInt ≤ y.toInt)
    rw [decide_eq_decide]
    exact Int32.le_iff_toInt_le
/-- a byte, without its sign -/
def ub (g : Nat → Int32) (i : Nat) : Int32 := g i &&& (Int16.ofInt 255).toInt32
def r2 (s : rs) (at_ : Int32) : Int32 := if 0 ≤ at_.toInt ∧ at_.toInt + 2 ≤ s.2.1 then ub s.1 at_.toInt.toNat ||| ub s.1 (at_.toInt.toNat + 1) <<< 8 else 0
def r4 (s : rs) (at_ : Int32) : Int32 := if 0 ≤ at_.toInt ∧ at_.toInt + 4 ≤ s.2.1 then ub s.1 at_.toInt.toNat ||| ub s.1 (at_.toInt.toNat + 1) <<< 8 ||| ub s.1 (at_.toInt.toNat + 2) <<< 16 ||| s.1 (at_.toInt.toNat + 3) <<< 24 else 0
section ROWR
variable {d a b n : Nat} {h : eg_H} {s : rs} {x : Int32} {K : Option Value → eg_H → Prop}
theorem nI_pi (i c : Nat) : nI i + Int32.ofInt (c : Int) = nI (i + c) := by
  show Int32.ofNat i + Int32.ofInt (Int.ofNat c) = Int32.ofNat (i + c)
  rw [Int32.ofNat_add]
  rfl
theorem two_Y (hab : a ≠ b) (hn : n < 2 ^ 31) (hs : s.2.1 ≤ n) (k : K (some (.int (r2 s x))) (rowH h a b n s)) : eg_Y cl kY 3 mt (d + 1) 129 [.ref a, .int x] (rowH h a b n s) K := by
  refine eg_Y.of (w := kd129) rfl rfl ?_
  refine g_v 1 _ rfl rfl rfl rfl ?_
  refine g_if 14 4 rfl rfl rfl (fun hc => ?_) (fun hc => ?_)
  · have h1 : x.toInt < 0 := of_decide_eq_true (cnd_i.symm.trans hc)
    refine g_p 15 rfl rfl rfl rfl ?_
    have e : r2 s x = 0 := if_neg (by omega)
    rw [e] at k
    exact g_ret rfl k
  have h0 : ¬ x.toInt < 0 := of_decide_eq_false (cnd_i.symm.trans hc)
  have ex := i32_nI (x := x) (by omega)
  refine g_v 5 _ rfl rfl rfl rfl ?_
  refine g_v 6 _ rfl rfl rfl rfl ?_
  refine g_get 9 rfl rfl rfl (rowH_a h a b n s) rfl rfl ?_
  refine g_p 10 rfl rfl rfl rfl ?_
  refine g_p 11 rfl rfl rfl rfl ?_
  have hsub : (nI s.2.1 - Int32.ofInt 2).toInt = (s.2.1 : Int) - (2 : Nat) := nI_sub (c := 2) (by decide) (by omega) (by omega)
  refine g_icmp 16 14 rfl rfl rfl (fun hc => ?_) (fun hc => ?_)
  · have h1 : x.toInt ≤ (nI s.2.1 - Int32.ofInt 2).toInt := of_decide_eq_true (cnd_i.symm.trans hc)
    rw [hsub] at h1
    have e : r2 s x = _ := if_pos (show 0 ≤ x.toInt ∧ x.toInt + 2 ≤ s.2.1 by omega)
    rw [e] at k
    generalize hi : x.toInt.toNat = i at k ex
    have hi2 : i + 2 ≤ s.2.1 := by omega
    subst ex
    refine g_v 17 _ rfl rfl rfl rfl ?_
    refine g_get 20 rfl rfl rfl (rowH_a h a b n s) rfl rfl ?_
    refine g_v 21 _ rfl rfl rfl rfl ?_
    refine g_bald 22 rfl (rowH_b hab) rfl (eg_in_nI (by omega) hn) rfl ?_
    rw [nI_clamp (by omega)]
    refine g_p 25 rfl rfl rfl rfl ?_
    refine g_p 26 rfl rfl rfl rfl ?_
    refine g_v 27 _ rfl rfl rfl rfl ?_
    refine g_get 30 rfl rfl rfl (rowH_a h a b n s) rfl rfl ?_
    refine g_v 31 _ rfl rfl rfl rfl ?_
    refine g_p 32 rfl rfl rfl rfl ?_
    refine g_p 33 rfl rfl rfl rfl ?_
    dsimp only
    rw [show nI i + Int32.ofInt 1 = nI (i + 1) from nI_pi i 1]
    refine g_bald 34 rfl (rowH_b hab) rfl (eg_in_nI (by omega) hn) rfl ?_
    rw [nI_clamp (by omega)]
    refine g_p 37 rfl rfl rfl rfl ?_
    refine g_p 38 rfl rfl rfl rfl ?_
    refine g_p 40 rfl rfl rfl rfl ?_
    refine g_p 41 rfl rfl rfl rfl ?_
    refine g_p 42 rfl rfl rfl rfl ?_
    exact g_ret rfl k
  · have h1 : ¬ x.toInt ≤ (nI s.2.1 - Int32.ofInt 2).toInt := of_decide_eq_false (cnd_i.symm.trans hc)
    rw [hsub] at h1
    have e : r2 s x = 0 := if_neg (by omega)
    rw [e] at k
    refine g_p 15 rfl rfl rfl rfl ?_
    exact g_ret rfl k
theorem four_Y (hab : a ≠ b) (hn : n < 2 ^ 31) (hs : s.2.1 ≤ n) (k : K (some (.int (r4 s x))) (rowH h a b n s)) : eg_Y cl kY 3 mt (d + 1) 61 [.ref a, .int x] (rowH h a b n s) K := by
  refine eg_Y.of (w := kd61) rfl rfl ?_
  refine g_v 1 _ rfl rfl rfl rfl ?_
  refine g_if 14 4 rfl rfl rfl (fun hc => ?_) (fun hc => ?_)
  · have h1 : x.toInt < 0 := of_decide_eq_true (cnd_i.symm.trans hc)
    refine g_p 15 rfl rfl rfl rfl ?_
    have e : r4 s x = 0 := if_neg (by omega)
    rw [e] at k
    exact g_ret rfl k
  have h0 : ¬ x.toInt < 0 := of_decide_eq_false (cnd_i.symm.trans hc)
  have ex := i32_nI (x := x) (by omega)
  refine g_v 5 _ rfl rfl rfl rfl ?_
  refine g_v 6 _ rfl rfl rfl rfl ?_
  refine g_get 9 rfl rfl rfl (rowH_a h a b n s) rfl rfl ?_
  refine g_p 10 rfl rfl rfl rfl ?_
  refine g_p 11 rfl rfl rfl rfl ?_
  have hsub : (nI s.2.1 - Int32.ofInt 4).toInt = (s.2.1 : Int) - (4 : Nat) := nI_sub (c := 4) (by decide) (by omega) (by omega)
  refine g_icmp 16 14 rfl rfl rfl (fun hc => ?_) (fun hc => ?_)
  · have h1 : x.toInt ≤ (nI s.2.1 - Int32.ofInt 4).toInt := of_decide_eq_true (cnd_i.symm.trans hc)
    rw [hsub] at h1
    have e : r4 s x = _ := if_pos (show 0 ≤ x.toInt ∧ x.toInt + 4 ≤ s.2.1 by omega)
    rw [e] at k
    generalize hi : x.toInt.toNat = i at k ex
    have hi2 : i + 4 ≤ s.2.1 := by omega
    subst ex
    refine g_v 17 _ rfl rfl rfl rfl ?_
    refine g_get 20 rfl rfl rfl (rowH_a h a b n s) rfl rfl ?_
    refine g_v 21 _ rfl rfl rfl rfl ?_
    refine g_bald 22 rfl (rowH_b hab) rfl (eg_in_nI (by omega) hn) rfl ?_
    rw [nI_clamp (by omega)]
    refine g_p 25 rfl rfl rfl rfl ?_
    refine g_p 26 rfl rfl rfl rfl ?_
    refine g_v 27 _ rfl rfl rfl rfl ?_
    refine g_get 30 rfl rfl rfl (rowH_a h a b n s) rfl rfl ?_
    refine g_v 31 _ rfl rfl rfl rfl ?_
    refine g_p 32 rfl rfl rfl rfl ?_
    refine g_p 33 rfl rfl rfl rfl ?_
    dsimp only
    rw [show nI i + Int32.ofInt 1 = nI (i + 1) from nI_pi i 1]
    refine g_bald 34 rfl (rowH_b hab) rfl (eg_in_nI (by omega) hn) rfl ?_
    rw [nI_clamp (by omega)]
    refine g_p 37 rfl rfl rfl rfl ?_
    refine g_p 38 rfl rfl rfl rfl ?_
    refine g_p 40 rfl rfl rfl rfl ?_
    refine g_p 41 rfl rfl rfl rfl ?_
    refine g_p 42 rfl rfl rfl rfl ?_
    refine g_v 43 _ rfl rfl rfl rfl ?_
    refine g_get 46 rfl rfl rfl (rowH_a h a b n s) rfl rfl ?_
    refine g_v 47 _ rfl rfl rfl rfl ?_
    refine g_p 48 rfl rfl rfl rfl ?_
    refine g_p 49 rfl rfl rfl rfl ?_
    dsimp only
    rw [show nI i + Int32.ofInt 2 = nI (i + 2) from nI_pi i 2]
    refine g_bald 50 rfl (rowH_b hab) rfl (eg_in_nI (by omega) hn) rfl ?_
    rw [nI_clamp (by omega)]
    refine g_p 53 rfl rfl rfl rfl ?_
    refine g_p 54 rfl rfl rfl rfl ?_
    refine g_p 56 rfl rfl rfl rfl ?_
    refine g_p 57 rfl rfl rfl rfl ?_
    refine g_p 58 rfl rfl rfl rfl ?_
    refine g_v 59 _ rfl rfl rfl rfl ?_
    refine g_get 62 rfl rfl rfl (rowH_a h a b n s) rfl rfl ?_
    refine g_v 63 _ rfl rfl rfl rfl ?_
    refine g_p 64 rfl rfl rfl rfl ?_
    refine g_p 65 rfl rfl rfl rfl ?_
    dsimp only
    rw [show nI i + Int32.ofInt 3 = nI (i + 3) from nI_pi i 3]
    refine g_bald 66 rfl (rowH_b hab) rfl (eg_in_nI (by omega) hn) rfl ?_
    rw [nI_clamp (by omega)]
    refine g_p 68 rfl rfl rfl rfl ?_
    refine g_p 69 rfl rfl rfl rfl ?_
    refine g_p 70 rfl rfl rfl rfl ?_
    exact g_ret rfl k
  · have h1 : ¬ x.toInt ≤ (nI s.2.1 - Int32.ofInt 4).toInt := of_decide_eq_false (cnd_i.symm.trans hc)
    rw [hsub] at h1
    have e : r4 s x = 0 := if_neg (by omega)
    rw [e] at k
    refine g_p 15 rfl rfl rfl rfl ?_
    exact g_ret rfl k
end ROWR
