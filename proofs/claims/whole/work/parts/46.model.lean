/-! THE REFERENCE'S OBJECT: its fields (printed by wip/gen/model.py), and its shortest methods -/
/-- the ints and truths, the longs, the references that change -/
abbrev ms : Type := (Nat → Int32) × (Nat → Int64) × (Nat → Value)
def mfs (m : ms) : List Value := [.ref 169, .int (m.1 1), .int (m.1 2), .ref 170, .int (m.1 4), .int (m.1 5), .ref 171, .ref 172, .ref 173, .ref 174, .ref 175, .ref 176, .ref 177, .ref 178, .ref 179, .ref 180, .ref 181, .int (m.1 17), .ref 182, .int (m.1 19), .int (m.1 20), .ref 183, .ref 184, .ref 185, .ref 186, .ref 187, .int (m.1 26), .ref 188, .int (m.1 28), .ref 189, .ref 190, .int (m.1 31), .ref 191, .ref 192, .ref 193, .ref 194, .ref 195, .ref 196, .ref 197, .ref 198, .ref 199, .ref 200, .int (m.1 42), .ref 201, .ref 202, .ref 203, .ref 204, .ref 206, .ref 208, .ref 210, m.2.2 50, .int (m.1 51), .int (m.1 52), .int (m.1 53), .int (m.1 54), m.2.2 55, .int (m.1 56), .int (m.1 57), .ref 211, .int (m.1 59), .ref 212, .int (m.1 61), .int (m.1 62), .int (m.1 63), .ref 213, .ref 214, .int (m.1 66), .ref 215, .int (m.1 68), .int (m.1 69), .ref 216, .ref 217, .ref 218, .ref 219, .ref 220, .ref 221, .int (m.1 76), .ref 222, .int (m.1 78), .ref 223, .ref 224, .ref 225, .int (m.1 82), .ref 226, .ref 230, .ref 234, .int (m.1 86), .ref 235, .ref 236, .ref 237, .int (m.1 90), .int (m.1 91), .int (m.1 92), .int (m.1 93), .int (m.1 94), .int (m.1 95), .long (m.2.1 96), .int (m.1 97), .int (m.1 98), .int (m.1 99), .long (m.2.1 100), .long (m.2.1 101), .long (m.2.1 102), .ref 238, .ref 242, .ref 246, .ref 250, .ref 254, .ref 258, .ref 259, .ref 260, .int (m.1 111), .int (m.1 112), .int (m.1 113), .int (m.1 114), .int (m.1 115), .int (m.1 116), .int (m.1 117), .int (m.1 118), .int (m.1 119), .ref 261, .ref 262, .ref 263, .ref 264, .long (m.2.1 124), .long (m.2.1 125), .long (m.2.1 126), .long (m.2.1 127), .int (m.1 128), .int (m.1 129)]
def modO (m : ms) : eg_C := .inr (12, mfs m)
/-- an int field put -/
def mI (m : ms) (i : Nat) (x : Int32) : ms := (upI m.1 i x, m.2)
theorem upI_up (g : Nat → Int32) (k : Nat) (x y : Int32) : upI (upI g k x) k y = upI g k y := by
  funext j
  simp only [upI]
  by_cases e : j = k
  · rw [if_pos e, if_pos e]
  · rw [if_neg e, if_neg e, if_neg e]
theorem upI_at (g : Nat → Int32) (k : Nat) (x : Int32) : upI g k x k = x := if_pos rfl
theorem upI_ne {g : Nat → Int32} {k j : Nat} {x : Int32} (h : j ≠ k) : upI g k x j = g j := if_neg h
theorem upI_self (g : Nat → Int32) (k : Nat) {x : Int32} (h : g k = x) : upI g k x = g := by
  funext j
  simp only [upI]
  by_cases e : j = k
  · rw [if_pos e, e, h]
  · rw [if_neg e]
/-- the tape of the reference: its bytes and how many count -/
def mtH (h : eg_H) (m : ms) (g : Nat → Int32) (n : Nat) : eg_H := eg_upd (eg_upd h 169 (.inl (.byte, 16384, vi g))) 168 (modO (mI m 1 (nI n)))
theorem mtH_o (h : eg_H) (m : ms) (g : Nat → Int32) (n : Nat) : (mtH h m g n).1 168 = some (modO (mI m 1 (nI n))) := eg_upd_at _ _ _
theorem mtH_t (h : eg_H) (m : ms) (g : Nat → Int32) (n : Nat) : (mtH h m g n).1 169 = some (.inl (.byte, 16384, vi g)) := (eg_upd_ne (by decide)).trans (eg_upd_at _ _ _)
theorem mtH_ut (h : eg_H) (m : ms) (g g2 : Nat → Int32) (n : Nat) : eg_upd (mtH h m g n) 169 (.inl (.byte, 16384, vi g2)) = mtH h m g2 n := by
  unfold mtH
  rw [eg_upd_comm (by decide), eg_upd2]
theorem mtH_uo (h : eg_H) (m : ms) (g : Nat → Int32) (n n2 : Nat) : eg_upd (mtH h m g n) 168 (modO (mI m 1 (nI n2))) = mtH h m g n2 := by
  unfold mtH
  rw [eg_upd2]
theorem mtH_self {h : eg_H} {m : ms} {g : Nat → Int32} {n : Nat} (h1 : h.1 168 = some (modO m)) (h2 : h.1 169 = some (.inl (.byte, 16384, vi g))) (h3 : m.1 1 = nI n) : mtH h m g n = h := by
  unfold mtH mI
  rw [upI_self _ _ h3, eg_upd_self h2]
  exact eg_upd_self h1
/-- one byte more -/
def tb1 (g : Nat → Int32) (n : Nat) (x : Int32) : Nat → Int32 := upI g n x.toInt8.toInt32
/-- four bytes of an int, highest first -/
def tb4 (g : Nat → Int32) (n : Nat) (x : Int32) : Nat → Int32 := tb1 (tb1 (tb1 (tb1 g n (x >>> 24)) (n + 1) (x >>> 16)) (n + 2) (x >>> 8)) (n + 3) x
section MODEL
variable {d n : Nat} {h : eg_H} {m : ms} {g : Nat → Int32} {x : Int32} {K : Option Value → eg_H → Prop}
theorem sh0 (x : Int32) : x >>> (Int32.ofInt 0 &&& 31) = x := by
  have e : (Int32.ofInt 0 &&& 31) = 0 := by decide
  rw [e]
  apply Int32.toBitVec_inj.1
  simp
theorem feedInt_Y (hn : n + 4 ≤ 16384) (k : K none (mtH h m (tb4 g n x) (n + 4))) : eg_Y cl kY 3 mt (d + 1) 240 [.ref 168, .int x] (mtH h m g n) K := by
  refine eg_Y.of (w := kd240) rfl rfl ?_
  have B : ∀ (g2 : Nat → Int32) (i : Nat) (y : Int32), i < 16384 → (0 ≤ y.toInt) → eg_K cl kY 3 mt d none kd240.2.2.2.2 (3, [some (.ref 168), some (.int x), some (.int (y + Int32.ofInt (-8)))], [], mtH h m (tb1 g2 i (x >>> (y &&& 31))) (i + 1)) K → eg_K cl kY 3 mt d none kd240.2.2.2.2 (3, [some (.ref 168), some (.int x), some (.int y)], [], mtH h m g2 i) K := by
    intro g2 i y hi hy q
    refine g_v 4 _ rfl rfl rfl rfl ?_
    refine g_if 36 7 rfl rfl rfl (fun hc => ?_) (fun _ => ?_)
    · have := of_decide_eq_true (cnd_i.symm.trans hc)
      exact absurd (show y.toInt < 0 from this) (by omega)
    refine g_v 8 _ rfl rfl rfl rfl ?_
    refine g_get 11 rfl rfl rfl (mtH_o h m g2 i) rfl rfl ?_
    refine g_v 12 _ rfl rfl rfl rfl ?_
    refine g_get 15 rfl rfl rfl (mtH_o h m g2 i) rfl rfl ?_
    refine g_v 16 _ rfl rfl rfl rfl ?_
    refine g_v 17 _ rfl rfl rfl rfl ?_
    refine g_p 18 rfl rfl rfl rfl ?_
    refine g_p 19 rfl rfl rfl rfl ?_
    refine g_bast 20 rfl (mtH_t h m g2 i) rfl rfl (eg_in_nI hi (by omega)) (by omega) rfl ?_
    have e1 : updV (vi g2) (nI i).toNatClampNeg (narrow .byte (.int (x >>> (y &&& 31)).toInt8.toInt32)) = vi (tb1 g2 i (x >>> (y &&& 31))) := by
      rw [nI_clamp (by omega)]
      show updV (vi g2) i (.int (x >>> (y &&& 31)).toInt8.toInt32.toInt8.toInt32) = _
      rw [i8_two]
      exact vi_up _ _ _
    show eg_K cl kY 3 mt d none kd240.2.2.2.2 (20, _, _, eg_upd (mtH h m g2 i) 169 (.inl (.byte, 16384, updV (vi g2) (nI i).toNatClampNeg (narrow .byte (.int (x >>> (y &&& 31)).toInt8.toInt32))))) K
    rw [e1, mtH_ut]
    refine g_v 21 _ rfl rfl rfl rfl ?_
    refine g_p 22 rfl rfl rfl rfl ?_
    refine g_get 25 rfl rfl rfl (mtH_o h m _ i) rfl rfl ?_
    refine g_p 26 rfl rfl rfl rfl ?_
    refine g_p 27 rfl rfl rfl rfl ?_
    refine g_put 30 rfl rfl rfl (mtH_o h m _ i) (be rfl) rfl (by decide) rfl ?_
    have e2 : nI i + Int32.ofInt 1 = nI (i + 1) := nI_1 i
    have e3 : (.inr (12, (mfs (mI m 1 (nI i))).set 1 (.int (nI i + Int32.ofInt 1))) : eg_C) = modO (mI m 1 (nI (i + 1))) := by
      rw [e2]
      rfl
    show eg_K cl kY 3 mt d none kd240.2.2.2.2 (30, _, _, eg_upd (mtH h m (tb1 g2 i (x >>> (y &&& 31))) i) 168 (.inr (12, (mfs (mI m 1 (nI i))).set 1 (.int (nI i + Int32.ofInt 1))))) K
    rw [e3, mtH_uo]
    refine g_v 33 _ rfl rfl rfl rfl ?_
    refine g_b 3 rfl rfl rfl ?_
    exact q
  refine g_p 2 rfl rfl rfl rfl ?_
  refine g_v 3 _ rfl rfl rfl rfl ?_
  refine B g n _ (by omega) (by decide) ?_
  refine B _ (n + 1) _ (by omega) (by decide) ?_
  refine B _ (n + 2) _ (by omega) (by decide) ?_
  refine B _ (n + 3) _ (by omega) (by decide) ?_
  refine g_v 4 _ rfl rfl rfl rfl ?_
  refine g_if 36 7 rfl rfl rfl (fun _ => ?_) (fun hc => by cases hc)
  refine g_ret rfl ?_
  show K none (mtH h m (tb1 (tb1 (tb1 (tb1 g n (x >>> ((Int8.ofInt 24).toInt32 &&& 31))) (n + 1) (x >>> (((Int8.ofInt 24).toInt32 + Int32.ofInt (-8)) &&& 31))) (n + 2) (x >>> ((((Int8.ofInt 24).toInt32 + Int32.ofInt (-8)) + Int32.ofInt (-8)) &&& 31))) (n + 3) (x >>> (((((Int8.ofInt 24).toInt32 + Int32.ofInt (-8)) + Int32.ofInt (-8)) + Int32.ofInt (-8)) &&& 31))) (n + 3 + 1))
  rw [show ((Int8.ofInt 24).toInt32 &&& 31) = 24 by decide, show (((Int8.ofInt 24).toInt32 + Int32.ofInt (-8)) &&& 31) = 16 by decide, show ((((Int8.ofInt 24).toInt32 + Int32.ofInt (-8)) + Int32.ofInt (-8)) &&& 31) = 8 by decide, show (((((Int8.ofInt 24).toInt32 + Int32.ofInt (-8)) + Int32.ofInt (-8)) + Int32.ofInt (-8)) &&& 31) = (Int32.ofInt 0 &&& 31) by decide, sh0]
  exact k
/-- the call of feedInt -/
theorem feedInt_c {t : Option FieldType} {M : eg_M} {pc pc2 : Nat} {l : eg_L} {r : List Value} {ix : Nat} (hM : M.1 pc = some (.invokevirtual ix, 3)) (hP : M.2 ix = some (6, 240, 1, .ref 12)) (hpc : pc + 3 = pc2) (hr : Nat.ble (eg_sum r) 8 = true) (hn : n + 4 ≤ 16384) (k : eg_K cl kY 3 mt (d + 1) t M (pc2, l, r, mtH h m (tb4 g n x) (n + 4)) K) : eg_K cl kY 3 mt (d + 1) t M (pc, l, .int x :: .ref 168 :: r, mtH h m g n) K := by
  refine g_call pc2 hM (cq_v hP (Or.inl rfl) rfl rfl (mtH_o h m g n) hr) hpc ?_
  exact feedInt_Y hn k
def tb20 (g : Nat → Int32) (n : Nat) (a b c e f : Int32) : Nat → Int32 := tb4 (tb4 (tb4 (tb4 (tb4 g n a) (n + 4) b) (n + 8) c) (n + 12) e) (n + 16) f
theorem mfeed_Y {a b c e f : Int32} (hn : n ≤ 16384) (k1 : 16364 < n → K (some (.int (Int32.ofInt (-6)))) (mtH h m g n)) (k2 : n ≤ 16364 → K (some (.int (nI (n + 20)))) (mtH h (mI m 2 1) (tb20 g n a b c e f) (n + 20))) : eg_Y cl kY 3 mt (d + 2) 239 [.ref 168, .int a, .int b, .int c, .int e, .int f] (mtH h m g n) K := by
  refine eg_Y.of (w := kd239) rfl rfl ?_
  refine g_v 1 _ rfl rfl rfl rfl ?_
  refine g_get 4 rfl rfl rfl (mtH_o h m g n) rfl rfl ?_
  refine g_p 6 rfl rfl rfl rfl ?_
  refine g_p 7 rfl rfl rfl rfl ?_
  refine g_p 10 rfl rfl rfl rfl ?_
  have e0 : nI n + (Int8.ofInt 20).toInt32 = nI (n + 20) := nI_pl n 20
  refine g_icmp 16 13 rfl rfl rfl (fun hc => ?_) (fun hc => ?_)
  · have hc2 : eg_cnd .le (nI n + (Int8.ofInt 20).toInt32) (nI 16384) = true := hc
    rw [e0, cnd_i] at hc2
    have h1 : (nI (n + 20)).toInt ≤ (nI 16384).toInt := of_decide_eq_true hc2
    rw [nI_int (by omega), nI_int (by omega)] at h1
    have hle : n ≤ 16364 := by omega
    refine g_v 17 _ rfl rfl rfl rfl ?_
    refine g_v 18 _ rfl rfl rfl rfl ?_
    refine feedInt_c (pc2 := 21) rfl rfl rfl rfl (by omega) ?_
    refine g_v 22 _ rfl rfl rfl rfl ?_
    refine g_v 23 _ rfl rfl rfl rfl ?_
    refine feedInt_c (pc2 := 26) rfl rfl rfl rfl (by omega) ?_
    refine g_v 27 _ rfl rfl rfl rfl ?_
    refine g_v 28 _ rfl rfl rfl rfl ?_
    refine feedInt_c (pc2 := 31) rfl rfl rfl rfl (by omega) ?_
    refine g_v 32 _ rfl rfl rfl rfl ?_
    refine g_v 34 _ rfl rfl rfl rfl ?_
    refine feedInt_c (pc2 := 37) rfl rfl rfl rfl (by omega) ?_
    refine g_v 38 _ rfl rfl rfl rfl ?_
    refine g_v 40 _ rfl rfl rfl rfl ?_
    refine feedInt_c (pc2 := 43) rfl rfl rfl rfl (by omega) ?_
    refine g_v 44 _ rfl rfl rfl rfl ?_
    refine g_p 45 rfl rfl rfl rfl ?_
    refine g_put 48 rfl rfl rfl (mtH_o h m _ _) (be rfl) rfl (by decide) rfl ?_
    have e1 : eg_upd (mtH h m (tb20 g n a b c e f) (n + 20)) 168 (modO (mI (mI m 2 1) 1 (nI (n + 20)))) = mtH h (mI m 2 1) (tb20 g n a b c e f) (n + 20) := by
      unfold mtH
      rw [eg_upd2]
    have e2 : (.inr (12, (mfs (mI m 1 (nI (n + 20)))).set 2 (.int (Int32.ofInt 1))) : eg_C) = modO (mI (mI m 2 1) 1 (nI (n + 20))) := rfl
    show eg_K cl kY 3 mt (d + 1) (some .int) kd239.2.2.2.2 (48, _, _, eg_upd (mtH h m (tb20 g n a b c e f) (n + 20)) 168 (.inr (12, (mfs (mI m 1 (nI (n + 20)))).set 2 (.int (Int32.ofInt 1))))) K
    rw [e2, e1]
    refine g_v 49 _ rfl rfl rfl rfl ?_
    refine g_get 52 rfl rfl rfl (mtH_o h (mI m 2 1) _ _) rfl rfl ?_
    exact g_ret rfl (k2 hle)
  · have hc2 : eg_cnd .le (nI n + (Int8.ofInt 20).toInt32) (nI 16384) = false := hc
    rw [e0, cnd_i] at hc2
    have h1 : ¬ (nI (n + 20)).toInt ≤ (nI 16384).toInt := of_decide_eq_false hc2
    rw [nI_int (by omega), nI_int (by omega)] at h1
    refine g_p 15 rfl rfl rfl rfl ?_
    exact g_ret rfl (k1 (by omega))
end MODEL
