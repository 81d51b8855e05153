/-! THE CLASS'S ROWS of bytes: what their methods do -/
/-- ints as values -/
def vi (g : Nat → Int32) : Nat → Value := fun i => .int (g i)
def upI (g : Nat → Int32) (k : Nat) (x : Int32) : Nat → Int32 := fun j => if j = k then x else g j
theorem vi_up (g : Nat → Int32) (k : Nat) (x : Int32) : updV (vi g) k (.int x) = vi (upI g k x) := by
  funext i
  simp only [updV, vi, upI]
  by_cases e : i = k
  · rw [if_pos e, if_pos e]
  · rw [if_neg e, if_neg e]
def b2i (b : Bool) : Int32 := if b = true then 1 else 0
theorem b2i_fit (b : Bool) : eg_fit .boolean (.int (b2i b)) = true := by cases b <;> decide
/-- a row: its bytes, how many count, whether it ran over -/
abbrev rs : Type := (Nat → Int32) × Nat × Bool
/-- the row a, whose bytes lie at b, n of them -/
def rowO (b : Nat) (s : rs) : eg_C := .inr (1, [.ref b, .int (nI s.2.1), .int (b2i s.2.2)])
def rowH (h : eg_H) (a b n : Nat) (s : rs) : eg_H := eg_upd (eg_upd h b (.inl (.byte, n, vi s.1))) a (rowO b s)
theorem rowH_a (h : eg_H) (a b n : Nat) (s : rs) : (rowH h a b n s).1 a = some (rowO b s) := eg_upd_at _ _ _
theorem rowH_b {h : eg_H} {a b n : Nat} {s : rs} (hab : a ≠ b) : (rowH h a b n s).1 b = some (.inl (.byte, n, vi s.1)) := (eg_upd_ne (fun q => hab q.symm)).trans (eg_upd_at _ _ _)
theorem rowH_o {h : eg_H} {a b n k : Nat} {s : rs} (h1 : k ≠ a) (h2 : k ≠ b) : (rowH h a b n s).1 k = h.1 k := (eg_upd_ne h1).trans (eg_upd_ne h2)
theorem rowH_ua (h : eg_H) (a b n : Nat) (s t : rs) (e : t.1 = s.1) : eg_upd (rowH h a b n s) a (rowO b t) = rowH h a b n t := by
  unfold rowH
  rw [eg_upd2, e]
theorem rowH_ub {h : eg_H} {a b n : Nat} {s : rs} {g : Nat → Int32} (hab : a ≠ b) : eg_upd (rowH h a b n s) b (.inl (.byte, n, vi g)) = rowH h a b n (g, s.2) := by
  unfold rowH
  rw [eg_upd_comm hab, eg_upd2]
  rfl
/-- a heap that holds the row is one with the row put -/
theorem rowH_self {h : eg_H} {a b n : Nat} {s : rs} (ha : h.1 a = some (rowO b s)) (hb : h.1 b = some (.inl (.byte, n, vi s.1))) : rowH h a b n s = h := by
  unfold rowH
  rw [eg_upd_self hb, eg_upd_self ha]
def rput (n : Nat) (s : rs) (x : Int32) : rs := if s.2.1 < n then (upI s.1 s.2.1 x.toInt8.toInt32, s.2.1 + 1, s.2.2) else (s.1, s.2.1, true)
theorem rput_le {n : Nat} {s : rs} (h : s.2.1 ≤ n) (x : Int32) : (rput n s x).2.1 ≤ n := by
  unfold rput
  split
  · show s.2.1 + 1 ≤ n
    omega
  · exact h
section ROW
variable {d a b n : Nat} {h : eg_H} {s : rs} {x : Int32} {K : Option Value → eg_H → Prop}
theorem put_Y (hab : a ≠ b) (ha : 3 ≤ a) (hb : 3 ≤ b) (hn : n < 2 ^ 31) (hs : s.2.1 ≤ n) (k : K none (rowH h a b n (rput n s x))) : eg_Y cl kY 3 mt (d + 1) 19 [.ref a, .int x] (rowH h a b n s) K := by
  refine eg_Y.of (w := kd19) rfl rfl ?_
  refine g_v 1 _ rfl rfl rfl rfl ?_
  refine g_get 4 rfl rfl rfl (rowH_a h a b n s) rfl rfl ?_
  refine g_v 5 _ rfl rfl rfl rfl ?_
  refine g_get 8 rfl rfl rfl (rowH_a h a b n s) rfl rfl ?_
  refine g_len 9 rfl (rowH_b hab) rfl ?_
  refine g_icmp 18 12 rfl rfl rfl (fun hc => ?_) (fun hc => ?_)
  · have hc2 : eg_cnd .lt (nI s.2.1) (nI n) = true := hc
    rw [cnd_lt (by omega) hn] at hc2
    have hlt : s.2.1 < n := of_decide_eq_true hc2
    have e : rput n s x = (upI s.1 s.2.1 x.toInt8.toInt32, s.2.1 + 1, s.2.2) := if_pos hlt
    rw [e] at k
    refine g_v 19 _ rfl rfl rfl rfl ?_
    refine g_get 22 rfl rfl rfl (rowH_a h a b n s) rfl rfl ?_
    refine g_v 23 _ rfl rfl rfl rfl ?_
    refine g_get 26 rfl rfl rfl (rowH_a h a b n s) rfl rfl ?_
    refine g_v 27 _ rfl rfl rfl rfl ?_
    refine g_p 28 rfl rfl rfl rfl ?_
    refine g_bast 29 rfl (rowH_b hab) rfl rfl (eg_in_nI hlt hn) hb rfl ?_
    have e1 : updV (vi s.1) (nI s.2.1).toNatClampNeg (narrow .byte (.int x.toInt8.toInt32)) = vi (upI s.1 s.2.1 x.toInt8.toInt32) := by
      rw [nI_clamp (by omega)]
      show updV (vi s.1) s.2.1 (.int x.toInt8.toInt32.toInt8.toInt32) = _
      rw [i8_two]
      exact vi_up _ _ _
    rw [e1, rowH_ub hab]
    refine g_v 30 _ rfl rfl rfl rfl ?_
    refine g_p 31 rfl rfl rfl rfl ?_
    refine g_get 34 rfl rfl rfl (rowH_a h a b n _) rfl rfl ?_
    refine g_p 35 rfl rfl rfl rfl ?_
    refine g_p 36 rfl rfl rfl rfl ?_
    refine g_put 39 rfl rfl rfl (rowH_a h a b n _) (be rfl) rfl ha rfl ?_
    refine g_ret rfl ?_
    have e2 : nI s.2.1 + Int32.ofInt 1 = nI (s.2.1 + 1) := nI_1 _
    show K none (eg_upd (rowH h a b n (upI s.1 s.2.1 x.toInt8.toInt32, s.2)) a (.inr (1, [.ref b, .int (nI s.2.1 + Int32.ofInt 1), .int (b2i s.2.2)])))
    rw [e2]
    have e3 := rowH_ua h a b n (upI s.1 s.2.1 x.toInt8.toInt32, s.2) (upI s.1 s.2.1 x.toInt8.toInt32, s.2.1 + 1, s.2.2) rfl
    rw [← e3] at k
    exact k
  · have hc2 : eg_cnd .lt (nI s.2.1) (nI n) = false := hc
    rw [cnd_lt (by omega) hn] at hc2
    have hge : ¬ s.2.1 < n := of_decide_eq_false hc2
    have e : rput n s x = (s.1, s.2.1, true) := if_neg hge
    rw [e] at k
    refine g_v 13 _ rfl rfl rfl rfl ?_
    refine g_p 14 rfl rfl rfl rfl ?_
    refine g_put 17 rfl rfl rfl (rowH_a h a b n s) (be rfl) rfl ha rfl ?_
    refine g_ret rfl ?_
    have e3 := rowH_ua h a b n s (s.1, s.2.1, true) rfl
    rw [← e3] at k
    exact k
/-- the call of put in a method of rows -/
theorem put_c {t : Option FieldType} {M : eg_M} {pc pc2 : Nat} {l : eg_L} {r : List Value} {ix : Nat} (hM : M.1 pc = some (.invokevirtual ix, 3)) (hP : M.2 ix = some (6, 19, 1, .ref 1)) (hpc : pc + 3 = pc2) (hr : Nat.ble (eg_sum r) 8 = true) (hab : a ≠ b) (ha : 3 ≤ a) (hb : 3 ≤ b) (hn : n < 2 ^ 31) (hs : s.2.1 ≤ n) (k : eg_K cl kY 3 mt (d + 1) t M (pc2, l, r, rowH h a b n (rput n s x)) K) : eg_K cl kY 3 mt (d + 1) t M (pc, l, .int x :: .ref a :: r, rowH h a b n s) K := by
  refine g_call pc2 hM (cq_v hP (Or.inl rfl) rfl rfl (rowH_a h a b n s) hr) hpc ?_
  exact put_Y hab ha hb hn hs k
theorem clear_Y (ha : 3 ≤ a) (k : K none (rowH h a b n (s.1, 0, false))) : eg_Y cl kY 3 mt (d + 1) 38 [.ref a] (rowH h a b n s) K := by
  refine eg_Y.of (w := kd38) rfl rfl ?_
  refine g_v 1 _ rfl rfl rfl rfl ?_
  refine g_p 2 rfl rfl rfl rfl ?_
  refine g_put 5 rfl rfl rfl (rowH_a h a b n s) (be rfl) rfl ha rfl ?_
  refine g_v 6 _ rfl rfl rfl rfl ?_
  refine g_p 7 rfl rfl rfl rfl ?_
  refine g_put 10 rfl rfl rfl (eg_upd_at _ _ _) (be rfl) rfl ha rfl ?_
  refine g_ret rfl ?_
  rw [eg_upd2]
  have e3 := rowH_ua h a b n s (s.1, 0, false) rfl
  rw [← e3] at k
  exact k
theorem putTwo_Y (hab : a ≠ b) (ha : 3 ≤ a) (hb : 3 ≤ b) (hn : n < 2 ^ 31) (hs : s.2.1 ≤ n) (k : K none (rowH h a b n (rput n (rput n s x) (x >>> 8)))) : eg_Y cl kY 3 mt (d + 2) 113 [.ref a, .int x] (rowH h a b n s) K := by
  refine eg_Y.of (w := kd113) rfl rfl ?_
  refine g_v 1 _ rfl rfl rfl rfl ?_
  refine g_v 2 _ rfl rfl rfl rfl ?_
  refine put_c (pc2 := 5) rfl rfl rfl rfl hab ha hb hn hs ?_
  refine g_v 6 _ rfl rfl rfl rfl ?_
  refine g_v 7 _ rfl rfl rfl rfl ?_
  refine g_p 9 rfl rfl rfl rfl ?_
  refine g_p 10 rfl rfl rfl rfl ?_
  refine put_c (pc2 := 13) rfl rfl rfl rfl hab ha hb hn (rput_le hs _) ?_
  exact g_ret rfl k
def rput4 (n : Nat) (s : rs) (x : Int32) : rs := rput n (rput n (rput n (rput n s x) (x >>> 8)) (x >>> 16)) (x >>> 24)
def rputH (n : Nat) (s : rs) (x : Int32) : rs := rput n (rput n (rput n (rput n s (x >>> 24)) (x >>> 16)) (x >>> 8)) x
theorem putFour_Y (hab : a ≠ b) (ha : 3 ≤ a) (hb : 3 ≤ b) (hn : n < 2 ^ 31) (hs : s.2.1 ≤ n) (k : K none (rowH h a b n (rput4 n s x))) : eg_Y cl kY 3 mt (d + 2) 62 [.ref a, .int x] (rowH h a b n s) K := by
  refine eg_Y.of (w := kd62) rfl rfl ?_
  refine g_v 1 _ rfl rfl rfl rfl ?_
  refine g_v 2 _ rfl rfl rfl rfl ?_
  refine put_c (pc2 := 5) rfl rfl rfl rfl hab ha hb hn hs ?_
  refine g_v 6 _ rfl rfl rfl rfl ?_
  refine g_v 7 _ rfl rfl rfl rfl ?_
  refine g_p 9 rfl rfl rfl rfl ?_
  refine g_p 10 rfl rfl rfl rfl ?_
  refine put_c (pc2 := 13) rfl rfl rfl rfl hab ha hb hn (rput_le hs _) ?_
  refine g_v 14 _ rfl rfl rfl rfl ?_
  refine g_v 15 _ rfl rfl rfl rfl ?_
  refine g_p 17 rfl rfl rfl rfl ?_
  refine g_p 18 rfl rfl rfl rfl ?_
  refine put_c (pc2 := 21) rfl rfl rfl rfl hab ha hb hn (rput_le (rput_le hs _) _) ?_
  refine g_v 22 _ rfl rfl rfl rfl ?_
  refine g_v 23 _ rfl rfl rfl rfl ?_
  refine g_p 25 rfl rfl rfl rfl ?_
  refine g_p 26 rfl rfl rfl rfl ?_
  refine put_c (pc2 := 29) rfl rfl rfl rfl hab ha hb hn (rput_le (rput_le (rput_le hs _) _) _) ?_
  exact g_ret rfl k
theorem putHighestFirst_Y (hab : a ≠ b) (ha : 3 ≤ a) (hb : 3 ≤ b) (hn : n < 2 ^ 31) (hs : s.2.1 ≤ n) (k : K none (rowH h a b n (rputH n s x))) : eg_Y cl kY 3 mt (d + 2) 18 [.ref a, .int x] (rowH h a b n s) K := by
  refine eg_Y.of (w := kd18) rfl rfl ?_
  refine g_v 1 _ rfl rfl rfl rfl ?_
  refine g_v 2 _ rfl rfl rfl rfl ?_
  refine g_p 4 rfl rfl rfl rfl ?_
  refine g_p 5 rfl rfl rfl rfl ?_
  refine put_c (pc2 := 8) rfl rfl rfl rfl hab ha hb hn hs ?_
  refine g_v 9 _ rfl rfl rfl rfl ?_
  refine g_v 10 _ rfl rfl rfl rfl ?_
  refine g_p 12 rfl rfl rfl rfl ?_
  refine g_p 13 rfl rfl rfl rfl ?_
  refine put_c (pc2 := 16) rfl rfl rfl rfl hab ha hb hn (rput_le hs _) ?_
  refine g_v 17 _ rfl rfl rfl rfl ?_
  refine g_v 18 _ rfl rfl rfl rfl ?_
  refine g_p 20 rfl rfl rfl rfl ?_
  refine g_p 21 rfl rfl rfl rfl ?_
  refine put_c (pc2 := 24) rfl rfl rfl rfl hab ha hb hn (rput_le (rput_le hs _) _) ?_
  refine g_v 25 _ rfl rfl rfl rfl ?_
  refine g_v 26 _ rfl rfl rfl rfl ?_
  refine put_c (pc2 := 29) rfl rfl rfl rfl hab ha hb hn (rput_le (rput_le (rput_le hs _) _) _) ?_
  exact g_ret rfl k
/-- m zeros -/
def rputZ (n : Nat) (s : rs) : Nat → rs
  | 0 => s
  | m + 1 => rput n (rputZ n s m) 0
theorem rputZ_le {n : Nat} {s : rs} (h : s.2.1 ≤ n) : ∀ m, (rputZ n s m).2.1 ≤ n
  | 0 => h
  | m + 1 => rput_le (rputZ_le h m) _
theorem putZeros_Y {m : Nat} (hm : m < 2 ^ 31) (hab : a ≠ b) (ha : 3 ≤ a) (hb : 3 ≤ b) (hn : n < 2 ^ 31) (hs : s.2.1 ≤ n) (k : K none (rowH h a b n (rputZ n s m))) : eg_Y cl kY 3 mt (d + 2) 54 [.ref a, .int (nI m)] (rowH h a b n s) K := by
  refine eg_Y.of (w := kd54) rfl rfl ?_
  refine g_p 1 rfl rfl rfl rfl ?_
  refine g_v 2 _ rfl rfl rfl rfl ?_
  have L : ∀ (mm i : Nat), i ≤ m → m ≤ i + mm → eg_K cl kY 3 mt (d + 1) none kd54.2.2.2.2 (2, [some (.ref a), some (.int (nI m)), some (.int (nI i))], [], rowH h a b n (rputZ n s i)) K := by
    intro mm
    induction mm with
    | zero =>
      intro i h1 h2
      have e : i = m := by omega
      subst e
      refine g_v 3 _ rfl rfl rfl rfl ?_
      refine g_v 4 _ rfl rfl rfl rfl ?_
      refine g_icmp 18 7 rfl rfl rfl (fun _ => g_ret rfl k) (fun hc => ?_)
      rw [cnd_ge hm hm, decide_eq_true (Nat.le_refl i)] at hc
      cases hc
    | succ mm ih =>
      intro i h1 h2
      by_cases he : i = m
      · exact ih i h1 (by omega)
      refine g_v 3 _ rfl rfl rfl rfl ?_
      refine g_v 4 _ rfl rfl rfl rfl ?_
      refine g_icmp 18 7 rfl rfl rfl (fun hc => ?_) (fun _ => ?_)
      · rw [cnd_ge (by omega) hm] at hc
        exact absurd (of_decide_eq_true hc) (by omega)
      refine g_v 8 _ rfl rfl rfl rfl ?_
      refine g_p 9 rfl rfl rfl rfl ?_
      refine put_c (pc2 := 12) rfl rfl rfl rfl hab ha hb hn (rputZ_le hs i) ?_
      refine g_v 15 _ rfl rfl rfl rfl ?_
      refine g_b 2 rfl rfl rfl ?_
      have e2 : nI i + Int32.ofInt 1 = nI (i + 1) := nI_1 i
      show eg_K cl kY 3 mt (d + 1) none kd54.2.2.2.2 (2, [some (.ref a), some (.int (nI m)), some (.int (nI i + Int32.ofInt 1))], [], rowH h a b n (rputZ n s (i + 1))) K
      rw [e2]
      exact ih (i + 1) (by omega) (by omega)
  exact L m 0 (Nat.zero_le _) (by omega)
end ROW
