/-! THE LAW'S LOOP, over any relation between the cells that every call keeps -/
/-- the script, and the two objects -/
def lbase (L : Nat) (xs : Nat → Int32) (h : eg_H) : Prop := h.1 0 = some (.inl (.int, L, fun j => .int (xs j))) ∧ (∃ fs, h.1 3 = some (.inr (0, fs))) ∧ ∃ fs, h.1 168 = some (.inr (12, fs))
/-- a call of both: they answer alike, and the relation holds again -/
def lcI (R : Nat → eg_H → Prop) (B : eg_H → Prop) (d jc jm : Nat) (as : List Value) : Prop := ∀ k h, R k h → eg_Y cl kY 3 mt d jc (.ref 3 :: as) h (fun v h1 => B h1 ∧ ∃ x : Int32, v = some (.int x) ∧ eg_Y cl kY 3 mt d jm (.ref 168 :: as) h1 (fun v2 h2 => v2 = some (.int x) ∧ R (k + 1) h2))
def lcJ (R : Nat → eg_H → Prop) (B : eg_H → Prop) (d jc jm : Nat) (as : List Value) : Prop := ∀ k h, R k h → eg_Y cl kY 3 mt d jc (.ref 3 :: as) h (fun v h1 => B h1 ∧ ∃ x : Int64, v = some (.long x) ∧ eg_Y cl kY 3 mt d jm (.ref 168 :: as) h1 (fun v2 h2 => v2 = some (.long x) ∧ R (k + 1) h2))
section LOOP
variable {d L i : Nat} {xs : Nat → Int32} {h : eg_H} {st : List Value} {K : Option Value → eg_H → Prop}
abbrev lloc (i : Nat) : eg_L := [some (.ref 0), some (.ref 3), some (.ref 168), some (.int (nI i))]
theorem rd_arg (t : Nat) (pc pc2 : Nat) (hb : lbase L xs h) (hi : i + t < L) (hL : L < 2 ^ 31) (h0 : kcL pc = some (.aload_n 0, 1)) (h1 : kcL (pc + 1) = some (.iload_n 3, 1)) (h2 : kcL (pc + 2) = some (.iconst (t : Int), 1)) (h3 : kcL (pc + 3) = some (.iadd, 1)) (h4 : kcL (pc + 4) = some (.iaload, 1)) (hp : pc + 5 = pc2) (k : eg_K cl kY 3 mt d (some .boolean) law_M (pc2, lloc i, .int (xs (i + t)) :: st, h) K) : eg_K cl kY 3 mt d (some .boolean) law_M (pc, lloc i, st, h) K := by
  subst hp
  refine g_v (M := law_M) (pc + 1) _ h0 rfl rfl rfl ?_
  refine g_v (M := law_M) (pc + 2) _ h1 rfl rfl rfl ?_
  refine g_p (M := law_M) (pc + 3) h2 rfl rfl rfl ?_
  refine g_p (M := law_M) (pc + 4) h3 rfl rfl rfl ?_
  have e : nI i + Int32.ofInt (t : Int) = nI (i + t) := by
    show Int32.ofNat i + Int32.ofInt (Int.ofNat t) = Int32.ofNat (i + t)
    rw [Int32.ofNat_add]
    rfl
  show eg_K cl kY 3 mt d (some .boolean) law_M (pc + 4, lloc i, .int (nI i + Int32.ofInt (t : Int)) :: .ref 0 :: st, h) K
  rw [e]
  refine g_iald (M := law_M) (pc + 5) h4 hb.1 rfl (eg_in_nI hi hL) rfl ?_
  rw [nI_clamp (by omega)]
  exact k
theorem cq_v {P : Nat → Option eg_E} {ix tag j n a kd : Nat} {r fs : List Value} (hP : P ix = some (tag, j, n, .ref kd)) (ht : tag = 6 ∨ tag = 8) (hl : Nat.ble n st.length = true) (hd : st.drop n = .ref a :: r) (ha : h.1 a = some (.inr (kd, fs))) (hs : Nat.ble (eg_sum r) 8 = true) : eg_cq P (.invokevirtual ix) st h = some (j, .ref a :: (st.take n).reverse, r) := by
  simp only [eg_cq, hP]
  rw [if_pos ⟨ht, be hl⟩, hd]
  dsimp only
  rw [ha]
  dsimp only
  rw [if_pos ⟨rfl, be hs⟩]

set_option maxHeartbeats 4000000 in
theorem law_loop {R : Nat → eg_H → Prop} {d L : Nat} {xs : Nat → Int32} (hL : L < 2 ^ 31) (hb : ∀ k h, R k h → lbase L xs h) (hK : ∀ k h, R k h → 6 * k ≤ L → h.2.1 ≤ 3 + 350723 ∧ h.2.2 ≤ 8050080) (hR : ∀ k h, R k h → R (k + 1) h)
    (c0 : ∀ (a : Int32) (b : Int32) (c : Int32) (e : Int32) (f : Int32), lcI R (lbase L xs) d 17 239 [.int a, .int b, .int c, .int e, .int f])
    (c1 : ∀ (a : Int32), lcI R (lbase L xs) d 20 241 [.int a])
    (c2 : lcI R (lbase L xs) d 21 242 [])
    (c3 : ∀ (a : Int32), lcJ R (lbase L xs) d 22 243 [.int a])
    (c4 : ∀ (a : Int32) (b : Int32) (c : Int32), lcI R (lbase L xs) d 24 245 [.int a, .int b, .int c])
    (c5 : ∀ (a : Int32) (b : Int32), lcI R (lbase L xs) d 39 254 [.int a, .int b])
    (c6 : ∀ (a : Int32), lcI R (lbase L xs) d 41 255 [.int a])
    (c7 : ∀ (a : Int32), lcI R (lbase L xs) d 46 258 [.int a])
    (c8 : ∀ (a : Int32) (b : Int32) (c : Int32), lcI R (lbase L xs) d 49 260 [.int a, .int b, .int c])
    (c9 : ∀ (a : Int32) (b : Int32) (c : Int32) (e : Int32) (f : Int32), lcI R (lbase L xs) d 51 261 [.int a, .int b, .int c, .int e, .int f])
    (c10 : ∀ (a : Int32) (b : Int32) (c : Int32), lcI R (lbase L xs) d 52 262 [.int a, .int b, .int c])
    (c11 : lcI R (lbase L xs) d 217 382 [])
    (c12 : lcI R (lbase L xs) d 218 383 [])
    (c13 : ∀ (a : Int32), lcJ R (lbase L xs) d 219 384 [.int a])
    (c14 : ∀ (a : Int32) (b : Int32), lcI R (lbase L xs) d 220 385 [.int a, .int b])
    (c15 : ∀ (a : Int32), lcI R (lbase L xs) d 221 386 [.int a])
    (c16 : lcI R (lbase L xs) d 223 387 [])
    (c17 : ∀ (a : Int32), lcI R (lbase L xs) d 224 388 [.int a])
    (c18 : ∀ (a : Int32) (b : Int32), lcJ R (lbase L xs) d 228 391 [.int a, .int b])
    (c19 : ∀ (a : Int32) (b : Int32), lcI R (lbase L xs) d 229 393 [.int a, .int b])
    (c20 : ∀ (a : Int32) (b : Int64) (e : Int32), lcI R (lbase L xs) d 231 394 [.int a, .long b, .int e])
    (c21 : ∀ (a : Int32), lcI R (lbase L xs) d 232 396 [.int a])
    (c22 : ∀ (a : Int32), lcI R (lbase L xs) d 233 397 [.int a]) :
    ∀ (m k : Nat) (h : eg_H), R k h → 6 * k ≤ L → L ≤ 6 * k + m → eg_K cl kY 3 mt d (some .boolean) law_M (18, lloc (6 * k), [], h) law_K := by
  intro m
  induction m using Nat.strongRecOn with
  | ind m ih =>
    intro k h hr h1 h2
    have HB := hb k h hr
    refine g_v (M := law_M) 19 _ rfl rfl rfl rfl ?_
    refine g_v (M := law_M) 20 _ rfl rfl rfl rfl ?_
    refine g_len (M := law_M) 21 rfl HB.1 rfl ?_
    refine g_p (M := law_M) 23 rfl rfl rfl rfl ?_
    refine g_p (M := law_M) 24 rfl rfl rfl rfl ?_
    refine g_icmp (M := law_M) 868 27 rfl rfl rfl (fun hc => ?_) (fun hc => ?_)
    · refine g_p (M := law_M) 869 rfl rfl rfl rfl ?_
      exact g_ret rfl ⟨rfl, hK k h hr h1⟩
    have hlt : 6 * k + 6 ≤ L := by
      have e1 : eg_cnd .gt (nI (6 * k)) (Int32.ofNat L - (Int8.ofInt 6).toInt32) = false := hc
      have e2 := of_decide_eq_false e1
      rw [Int32.lt_iff_toInt_lt] at e2
      have e3 : (Int32.ofNat L - (Int8.ofInt 6).toInt32).toInt = (L : Int) - 6 := by
        rw [Int32.toInt_sub, show ((Int8.ofInt 6).toInt32).toInt = 6 by decide]
        have e4 : (Int32.ofNat L).toInt = (L : Int) := Int32.toInt_ofNat_of_lt hL
        rw [e4]
        apply Int.bmod_eq_of_le <;> omega
      have e5 : (nI (6 * k)).toInt = ((6 * k : Nat) : Int) := Int32.toInt_ofNat_of_lt (by omega)
      omega
    -- the next round
    have NX : ∀ h2, R (k + 1) h2 → eg_K cl kY 3 mt d (some .boolean) law_M (862, lloc (6 * k), [], h2) law_K := by
      intro h2 hr2
      refine g_v (M := law_M) 865 _ rfl rfl rfl rfl ?_
      refine g_b (M := law_M) 18 rfl rfl rfl ?_
      have e : nI (6 * k) + Int32.ofInt 6 = nI (6 * (k + 1)) := by
        show Int32.ofNat (6 * k) + Int32.ofNat 6 = Int32.ofNat (6 * (k + 1))
        rw [← Int32.ofNat_add]
        rfl
      show eg_K cl kY 3 mt d (some .boolean) law_M (18, [some (.ref 0), some (.ref 3), some (.ref 168), some (.int (nI (6 * k) + Int32.ofInt 6))], [], h2) law_K
      rw [e]
      exact ih (m - 6) (by omega) (k + 1) h2 hr2 (by omega) (by omega)
    refine g_v (M := law_M) 28 _ rfl rfl rfl rfl ?_
    refine g_v (M := law_M) 29 _ rfl rfl rfl rfl ?_
    refine g_iald (M := law_M) 30 rfl HB.1 rfl (eg_in_nI (by omega) hL) rfl ?_
    rw [nI_clamp (by omega)]
    refine g_p (M := law_M) 32 rfl rfl rfl rfl ?_
    refine g_p (M := law_M) 33 rfl rfl rfl rfl ?_
    obtain ⟨c, hc32, e⟩ := pk_andE (xs (6 * k)) (m := (Int8.ofInt 31).toInt32) 5 (by decide)
    show eg_K cl kY 3 mt d (some .boolean) law_M (33, lloc (6 * k), [.int (xs (6 * k) &&& (Int8.ofInt 31).toInt32)], h) law_K
    rw [e]
    have c1 : c = 0 ∨ c = 1 ∨ c = 2 ∨ c = 3 ∨ c = 4 ∨ c = 5 ∨ c = 6 ∨ c = 7 ∨ c = 8 ∨ c = 9 ∨ c = 10 ∨ c = 11 ∨ c = 12 ∨ c = 13 ∨ c = 14 ∨ c = 15 ∨ c = 16 ∨ c = 17 ∨ c = 18 ∨ c = 19 ∨ c = 20 ∨ c = 21 ∨ c = 22 ∨ c = 23 ∨ c = 24 ∨ c = 25 ∨ c = 26 ∨ c = 27 ∨ c = 28 ∨ c = 29 ∨ c = 30 ∨ c = 31 := by omega
    rcases c1 with rfl | rfl | rfl | rfl | rfl | rfl | rfl | rfl | rfl | rfl | rfl | rfl | rfl | rfl | rfl | rfl | rfl | rfl | rfl | rfl | rfl | rfl | rfl | rfl | rfl | rfl | rfl | rfl | rfl | rfl | rfl | rfl
    · refine g_b (M := law_M) 140 rfl rfl rfl ?_
      refine g_v (M := law_M) 141 _ rfl rfl rfl rfl ?_
      refine rd_arg 1 141 146 HB (by omega) hL rfl rfl rfl rfl rfl rfl ?_
      refine rd_arg 2 146 151 HB (by omega) hL rfl rfl rfl rfl rfl rfl ?_
      refine rd_arg 3 151 156 HB (by omega) hL rfl rfl rfl rfl rfl rfl ?_
      refine rd_arg 4 156 161 HB (by omega) hL rfl rfl rfl rfl rfl rfl ?_
      refine rd_arg 5 161 166 HB (by omega) hL rfl rfl rfl rfl rfl rfl ?_
      obtain ⟨fs, hf⟩ := HB.2.1
      refine g_call (M := law_M) 169 rfl (cq_v rfl (by decide) rfl rfl hf rfl) rfl ?_
      refine (c0 (xs (6 * k + 1)) (xs (6 * k + 2)) (xs (6 * k + 3)) (xs (6 * k + 4)) (xs (6 * k + 5)) k h hr).imp (fun v h1 q => ?_)
      obtain ⟨HB1, x, rfl, q⟩ := q
      have HB := HB1
      refine g_v (M := law_M) 170 _ rfl rfl rfl rfl ?_
      refine rd_arg 1 170 175 HB (by omega) hL rfl rfl rfl rfl rfl rfl ?_
      refine rd_arg 2 175 180 HB (by omega) hL rfl rfl rfl rfl rfl rfl ?_
      refine rd_arg 3 180 185 HB (by omega) hL rfl rfl rfl rfl rfl rfl ?_
      refine rd_arg 4 185 190 HB (by omega) hL rfl rfl rfl rfl rfl rfl ?_
      refine rd_arg 5 190 195 HB (by omega) hL rfl rfl rfl rfl rfl rfl ?_
      obtain ⟨fs2, hf2⟩ := HB.2.2
      refine g_call (M := law_M) 198 rfl (cq_v rfl (by decide) rfl rfl hf2 rfl) rfl ?_
      refine q.imp (fun v2 h2 q2 => ?_)
      obtain ⟨rfl, hr2⟩ := q2
      refine g_icmp (M := law_M) 862 201 rfl rfl rfl (fun _ => NX h2 hr2) (fun hc => ?_)
      exact absurd (of_decide_eq_false (show decide (x = x) = false from hc)) (by simp)
    · refine g_b (M := law_M) 203 rfl rfl rfl ?_
      refine g_v (M := law_M) 204 _ rfl rfl rfl rfl ?_
      refine rd_arg 1 204 209 HB (by omega) hL rfl rfl rfl rfl rfl rfl ?_
      obtain ⟨fs, hf⟩ := HB.2.1
      refine g_call (M := law_M) 212 rfl (cq_v rfl (by decide) rfl rfl hf rfl) rfl ?_
      refine (c1 (xs (6 * k + 1)) k h hr).imp (fun v h1 q => ?_)
      obtain ⟨HB1, x, rfl, q⟩ := q
      have HB := HB1
      refine g_v (M := law_M) 213 _ rfl rfl rfl rfl ?_
      refine rd_arg 1 213 218 HB (by omega) hL rfl rfl rfl rfl rfl rfl ?_
      obtain ⟨fs2, hf2⟩ := HB.2.2
      refine g_call (M := law_M) 221 rfl (cq_v rfl (by decide) rfl rfl hf2 rfl) rfl ?_
      refine q.imp (fun v2 h2 q2 => ?_)
      obtain ⟨rfl, hr2⟩ := q2
      refine g_icmp (M := law_M) 862 224 rfl rfl rfl (fun _ => NX h2 hr2) (fun hc => ?_)
      exact absurd (of_decide_eq_false (show decide (x = x) = false from hc)) (by simp)
    · refine g_b (M := law_M) 226 rfl rfl rfl ?_
      refine g_v (M := law_M) 227 _ rfl rfl rfl rfl ?_
      obtain ⟨fs, hf⟩ := HB.2.1
      refine g_call (M := law_M) 230 rfl (cq_v rfl (by decide) rfl rfl hf rfl) rfl ?_
      refine (c2 k h hr).imp (fun v h1 q => ?_)
      obtain ⟨HB1, x, rfl, q⟩ := q
      have HB := HB1
      refine g_v (M := law_M) 231 _ rfl rfl rfl rfl ?_
      obtain ⟨fs2, hf2⟩ := HB.2.2
      refine g_call (M := law_M) 234 rfl (cq_v rfl (by decide) rfl rfl hf2 rfl) rfl ?_
      refine q.imp (fun v2 h2 q2 => ?_)
      obtain ⟨rfl, hr2⟩ := q2
      refine g_icmp (M := law_M) 862 237 rfl rfl rfl (fun _ => NX h2 hr2) (fun hc => ?_)
      exact absurd (of_decide_eq_false (show decide (x = x) = false from hc)) (by simp)
    · refine g_b (M := law_M) 239 rfl rfl rfl ?_
      refine g_v (M := law_M) 240 _ rfl rfl rfl rfl ?_
      refine rd_arg 1 240 245 HB (by omega) hL rfl rfl rfl rfl rfl rfl ?_
      obtain ⟨fs, hf⟩ := HB.2.1
      refine g_call (M := law_M) 248 rfl (cq_v rfl (by decide) rfl rfl hf rfl) rfl ?_
      refine (c3 (xs (6 * k + 1)) k h hr).imp (fun v h1 q => ?_)
      obtain ⟨HB1, x, rfl, q⟩ := q
      have HB := HB1
      refine g_v (M := law_M) 249 _ rfl rfl rfl rfl ?_
      refine rd_arg 1 249 254 HB (by omega) hL rfl rfl rfl rfl rfl rfl ?_
      obtain ⟨fs2, hf2⟩ := HB.2.2
      refine g_call (M := law_M) 257 rfl (cq_v rfl (by decide) rfl rfl hf2 rfl) rfl ?_
      refine q.imp (fun v2 h2 q2 => ?_)
      obtain ⟨rfl, hr2⟩ := q2
      refine g_p (M := law_M) 258 rfl rfl rfl rfl ?_
      refine g_if (M := law_M) 862 261 rfl rfl rfl (fun _ => NX h2 hr2) (fun hc => ?_)
      rw [show lg_cmp x x = 0 by unfold lg_cmp; rw [if_neg (fun q => by have := Int64.lt_iff_toInt_lt.1 q; omega), if_pos rfl]] at hc
      cases hc
    · refine g_b (M := law_M) 263 rfl rfl rfl ?_
      refine g_v (M := law_M) 264 _ rfl rfl rfl rfl ?_
      refine rd_arg 1 264 269 HB (by omega) hL rfl rfl rfl rfl rfl rfl ?_
      refine rd_arg 2 269 274 HB (by omega) hL rfl rfl rfl rfl rfl rfl ?_
      refine rd_arg 3 274 279 HB (by omega) hL rfl rfl rfl rfl rfl rfl ?_
      obtain ⟨fs, hf⟩ := HB.2.1
      refine g_call (M := law_M) 282 rfl (cq_v rfl (by decide) rfl rfl hf rfl) rfl ?_
      refine (c4 (xs (6 * k + 1)) (xs (6 * k + 2)) (xs (6 * k + 3)) k h hr).imp (fun v h1 q => ?_)
      obtain ⟨HB1, x, rfl, q⟩ := q
      have HB := HB1
      refine g_v (M := law_M) 283 _ rfl rfl rfl rfl ?_
      refine rd_arg 1 283 288 HB (by omega) hL rfl rfl rfl rfl rfl rfl ?_
      refine rd_arg 2 288 293 HB (by omega) hL rfl rfl rfl rfl rfl rfl ?_
      refine rd_arg 3 293 298 HB (by omega) hL rfl rfl rfl rfl rfl rfl ?_
      obtain ⟨fs2, hf2⟩ := HB.2.2
      refine g_call (M := law_M) 301 rfl (cq_v rfl (by decide) rfl rfl hf2 rfl) rfl ?_
      refine q.imp (fun v2 h2 q2 => ?_)
      obtain ⟨rfl, hr2⟩ := q2
      refine g_icmp (M := law_M) 862 304 rfl rfl rfl (fun _ => NX h2 hr2) (fun hc => ?_)
      exact absurd (of_decide_eq_false (show decide (x = x) = false from hc)) (by simp)
    · refine g_b (M := law_M) 306 rfl rfl rfl ?_
      refine g_v (M := law_M) 307 _ rfl rfl rfl rfl ?_
      refine rd_arg 1 307 312 HB (by omega) hL rfl rfl rfl rfl rfl rfl ?_
      refine rd_arg 2 312 317 HB (by omega) hL rfl rfl rfl rfl rfl rfl ?_
      obtain ⟨fs, hf⟩ := HB.2.1
      refine g_call (M := law_M) 320 rfl (cq_v rfl (by decide) rfl rfl hf rfl) rfl ?_
      refine (c5 (xs (6 * k + 1)) (xs (6 * k + 2)) k h hr).imp (fun v h1 q => ?_)
      obtain ⟨HB1, x, rfl, q⟩ := q
      have HB := HB1
      refine g_v (M := law_M) 321 _ rfl rfl rfl rfl ?_
      refine rd_arg 1 321 326 HB (by omega) hL rfl rfl rfl rfl rfl rfl ?_
      refine rd_arg 2 326 331 HB (by omega) hL rfl rfl rfl rfl rfl rfl ?_
      obtain ⟨fs2, hf2⟩ := HB.2.2
      refine g_call (M := law_M) 334 rfl (cq_v rfl (by decide) rfl rfl hf2 rfl) rfl ?_
      refine q.imp (fun v2 h2 q2 => ?_)
      obtain ⟨rfl, hr2⟩ := q2
      refine g_icmp (M := law_M) 862 337 rfl rfl rfl (fun _ => NX h2 hr2) (fun hc => ?_)
      exact absurd (of_decide_eq_false (show decide (x = x) = false from hc)) (by simp)
    · refine g_b (M := law_M) 339 rfl rfl rfl ?_
      refine g_v (M := law_M) 340 _ rfl rfl rfl rfl ?_
      refine rd_arg 1 340 345 HB (by omega) hL rfl rfl rfl rfl rfl rfl ?_
      obtain ⟨fs, hf⟩ := HB.2.1
      refine g_call (M := law_M) 348 rfl (cq_v rfl (by decide) rfl rfl hf rfl) rfl ?_
      refine (c6 (xs (6 * k + 1)) k h hr).imp (fun v h1 q => ?_)
      obtain ⟨HB1, x, rfl, q⟩ := q
      have HB := HB1
      refine g_v (M := law_M) 349 _ rfl rfl rfl rfl ?_
      refine rd_arg 1 349 354 HB (by omega) hL rfl rfl rfl rfl rfl rfl ?_
      obtain ⟨fs2, hf2⟩ := HB.2.2
      refine g_call (M := law_M) 357 rfl (cq_v rfl (by decide) rfl rfl hf2 rfl) rfl ?_
      refine q.imp (fun v2 h2 q2 => ?_)
      obtain ⟨rfl, hr2⟩ := q2
      refine g_icmp (M := law_M) 862 360 rfl rfl rfl (fun _ => NX h2 hr2) (fun hc => ?_)
      exact absurd (of_decide_eq_false (show decide (x = x) = false from hc)) (by simp)
    · refine g_b (M := law_M) 362 rfl rfl rfl ?_
      refine g_v (M := law_M) 363 _ rfl rfl rfl rfl ?_
      refine rd_arg 1 363 368 HB (by omega) hL rfl rfl rfl rfl rfl rfl ?_
      obtain ⟨fs, hf⟩ := HB.2.1
      refine g_call (M := law_M) 371 rfl (cq_v rfl (by decide) rfl rfl hf rfl) rfl ?_
      refine (c7 (xs (6 * k + 1)) k h hr).imp (fun v h1 q => ?_)
      obtain ⟨HB1, x, rfl, q⟩ := q
      have HB := HB1
      refine g_v (M := law_M) 372 _ rfl rfl rfl rfl ?_
      refine rd_arg 1 372 377 HB (by omega) hL rfl rfl rfl rfl rfl rfl ?_
      obtain ⟨fs2, hf2⟩ := HB.2.2
      refine g_call (M := law_M) 380 rfl (cq_v rfl (by decide) rfl rfl hf2 rfl) rfl ?_
      refine q.imp (fun v2 h2 q2 => ?_)
      obtain ⟨rfl, hr2⟩ := q2
      refine g_icmp (M := law_M) 862 383 rfl rfl rfl (fun _ => NX h2 hr2) (fun hc => ?_)
      exact absurd (of_decide_eq_false (show decide (x = x) = false from hc)) (by simp)
    · refine g_b (M := law_M) 385 rfl rfl rfl ?_
      refine g_v (M := law_M) 386 _ rfl rfl rfl rfl ?_
      refine rd_arg 1 386 391 HB (by omega) hL rfl rfl rfl rfl rfl rfl ?_
      refine rd_arg 2 391 396 HB (by omega) hL rfl rfl rfl rfl rfl rfl ?_
      refine rd_arg 3 396 401 HB (by omega) hL rfl rfl rfl rfl rfl rfl ?_
      obtain ⟨fs, hf⟩ := HB.2.1
      refine g_call (M := law_M) 404 rfl (cq_v rfl (by decide) rfl rfl hf rfl) rfl ?_
      refine (c8 (xs (6 * k + 1)) (xs (6 * k + 2)) (xs (6 * k + 3)) k h hr).imp (fun v h1 q => ?_)
      obtain ⟨HB1, x, rfl, q⟩ := q
      have HB := HB1
      refine g_v (M := law_M) 405 _ rfl rfl rfl rfl ?_
      refine rd_arg 1 405 410 HB (by omega) hL rfl rfl rfl rfl rfl rfl ?_
      refine rd_arg 2 410 415 HB (by omega) hL rfl rfl rfl rfl rfl rfl ?_
      refine rd_arg 3 415 420 HB (by omega) hL rfl rfl rfl rfl rfl rfl ?_
      obtain ⟨fs2, hf2⟩ := HB.2.2
      refine g_call (M := law_M) 423 rfl (cq_v rfl (by decide) rfl rfl hf2 rfl) rfl ?_
      refine q.imp (fun v2 h2 q2 => ?_)
      obtain ⟨rfl, hr2⟩ := q2
      refine g_icmp (M := law_M) 862 426 rfl rfl rfl (fun _ => NX h2 hr2) (fun hc => ?_)
      exact absurd (of_decide_eq_false (show decide (x = x) = false from hc)) (by simp)
    · refine g_b (M := law_M) 428 rfl rfl rfl ?_
      refine g_v (M := law_M) 429 _ rfl rfl rfl rfl ?_
      refine rd_arg 1 429 434 HB (by omega) hL rfl rfl rfl rfl rfl rfl ?_
      refine rd_arg 2 434 439 HB (by omega) hL rfl rfl rfl rfl rfl rfl ?_
      refine rd_arg 3 439 444 HB (by omega) hL rfl rfl rfl rfl rfl rfl ?_
      refine rd_arg 4 444 449 HB (by omega) hL rfl rfl rfl rfl rfl rfl ?_
      refine rd_arg 5 449 454 HB (by omega) hL rfl rfl rfl rfl rfl rfl ?_
      obtain ⟨fs, hf⟩ := HB.2.1
      refine g_call (M := law_M) 457 rfl (cq_v rfl (by decide) rfl rfl hf rfl) rfl ?_
      refine (c9 (xs (6 * k + 1)) (xs (6 * k + 2)) (xs (6 * k + 3)) (xs (6 * k + 4)) (xs (6 * k + 5)) k h hr).imp (fun v h1 q => ?_)
      obtain ⟨HB1, x, rfl, q⟩ := q
      have HB := HB1
      refine g_v (M := law_M) 458 _ rfl rfl rfl rfl ?_
      refine rd_arg 1 458 463 HB (by omega) hL rfl rfl rfl rfl rfl rfl ?_
      refine rd_arg 2 463 468 HB (by omega) hL rfl rfl rfl rfl rfl rfl ?_
      refine rd_arg 3 468 473 HB (by omega) hL rfl rfl rfl rfl rfl rfl ?_
      refine rd_arg 4 473 478 HB (by omega) hL rfl rfl rfl rfl rfl rfl ?_
      refine rd_arg 5 478 483 HB (by omega) hL rfl rfl rfl rfl rfl rfl ?_
      obtain ⟨fs2, hf2⟩ := HB.2.2
      refine g_call (M := law_M) 486 rfl (cq_v rfl (by decide) rfl rfl hf2 rfl) rfl ?_
      refine q.imp (fun v2 h2 q2 => ?_)
      obtain ⟨rfl, hr2⟩ := q2
      refine g_icmp (M := law_M) 862 489 rfl rfl rfl (fun _ => NX h2 hr2) (fun hc => ?_)
      exact absurd (of_decide_eq_false (show decide (x = x) = false from hc)) (by simp)
    · refine g_b (M := law_M) 491 rfl rfl rfl ?_
      refine g_v (M := law_M) 492 _ rfl rfl rfl rfl ?_
      refine rd_arg 1 492 497 HB (by omega) hL rfl rfl rfl rfl rfl rfl ?_
      refine rd_arg 2 497 502 HB (by omega) hL rfl rfl rfl rfl rfl rfl ?_
      refine rd_arg 3 502 507 HB (by omega) hL rfl rfl rfl rfl rfl rfl ?_
      obtain ⟨fs, hf⟩ := HB.2.1
      refine g_call (M := law_M) 510 rfl (cq_v rfl (by decide) rfl rfl hf rfl) rfl ?_
      refine (c10 (xs (6 * k + 1)) (xs (6 * k + 2)) (xs (6 * k + 3)) k h hr).imp (fun v h1 q => ?_)
      obtain ⟨HB1, x, rfl, q⟩ := q
      have HB := HB1
      refine g_v (M := law_M) 511 _ rfl rfl rfl rfl ?_
      refine rd_arg 1 511 516 HB (by omega) hL rfl rfl rfl rfl rfl rfl ?_
      refine rd_arg 2 516 521 HB (by omega) hL rfl rfl rfl rfl rfl rfl ?_
      refine rd_arg 3 521 526 HB (by omega) hL rfl rfl rfl rfl rfl rfl ?_
      obtain ⟨fs2, hf2⟩ := HB.2.2
      refine g_call (M := law_M) 529 rfl (cq_v rfl (by decide) rfl rfl hf2 rfl) rfl ?_
      refine q.imp (fun v2 h2 q2 => ?_)
      obtain ⟨rfl, hr2⟩ := q2
      refine g_icmp (M := law_M) 862 532 rfl rfl rfl (fun _ => NX h2 hr2) (fun hc => ?_)
      exact absurd (of_decide_eq_false (show decide (x = x) = false from hc)) (by simp)
    · refine g_b (M := law_M) 534 rfl rfl rfl ?_
      refine g_v (M := law_M) 535 _ rfl rfl rfl rfl ?_
      obtain ⟨fs, hf⟩ := HB.2.1
      refine g_call (M := law_M) 538 rfl (cq_v rfl (by decide) rfl rfl hf rfl) rfl ?_
      refine (c11 k h hr).imp (fun v h1 q => ?_)
      obtain ⟨HB1, x, rfl, q⟩ := q
      have HB := HB1
      refine g_v (M := law_M) 539 _ rfl rfl rfl rfl ?_
      obtain ⟨fs2, hf2⟩ := HB.2.2
      refine g_call (M := law_M) 542 rfl (cq_v rfl (by decide) rfl rfl hf2 rfl) rfl ?_
      refine q.imp (fun v2 h2 q2 => ?_)
      obtain ⟨rfl, hr2⟩ := q2
      refine g_icmp (M := law_M) 862 545 rfl rfl rfl (fun _ => NX h2 hr2) (fun hc => ?_)
      exact absurd (of_decide_eq_false (show decide (x = x) = false from hc)) (by simp)
    · refine g_b (M := law_M) 547 rfl rfl rfl ?_
      refine g_v (M := law_M) 548 _ rfl rfl rfl rfl ?_
      obtain ⟨fs, hf⟩ := HB.2.1
      refine g_call (M := law_M) 551 rfl (cq_v rfl (by decide) rfl rfl hf rfl) rfl ?_
      refine (c12 k h hr).imp (fun v h1 q => ?_)
      obtain ⟨HB1, x, rfl, q⟩ := q
      have HB := HB1
      refine g_v (M := law_M) 552 _ rfl rfl rfl rfl ?_
      obtain ⟨fs2, hf2⟩ := HB.2.2
      refine g_call (M := law_M) 555 rfl (cq_v rfl (by decide) rfl rfl hf2 rfl) rfl ?_
      refine q.imp (fun v2 h2 q2 => ?_)
      obtain ⟨rfl, hr2⟩ := q2
      refine g_icmp (M := law_M) 862 558 rfl rfl rfl (fun _ => NX h2 hr2) (fun hc => ?_)
      exact absurd (of_decide_eq_false (show decide (x = x) = false from hc)) (by simp)
    · refine g_b (M := law_M) 560 rfl rfl rfl ?_
      refine g_v (M := law_M) 561 _ rfl rfl rfl rfl ?_
      refine rd_arg 1 561 566 HB (by omega) hL rfl rfl rfl rfl rfl rfl ?_
      obtain ⟨fs, hf⟩ := HB.2.1
      refine g_call (M := law_M) 569 rfl (cq_v rfl (by decide) rfl rfl hf rfl) rfl ?_
      refine (c13 (xs (6 * k + 1)) k h hr).imp (fun v h1 q => ?_)
      obtain ⟨HB1, x, rfl, q⟩ := q
      have HB := HB1
      refine g_v (M := law_M) 570 _ rfl rfl rfl rfl ?_
      refine rd_arg 1 570 575 HB (by omega) hL rfl rfl rfl rfl rfl rfl ?_
      obtain ⟨fs2, hf2⟩ := HB.2.2
      refine g_call (M := law_M) 578 rfl (cq_v rfl (by decide) rfl rfl hf2 rfl) rfl ?_
      refine q.imp (fun v2 h2 q2 => ?_)
      obtain ⟨rfl, hr2⟩ := q2
      refine g_p (M := law_M) 579 rfl rfl rfl rfl ?_
      refine g_if (M := law_M) 862 582 rfl rfl rfl (fun _ => NX h2 hr2) (fun hc => ?_)
      rw [show lg_cmp x x = 0 by unfold lg_cmp; rw [if_neg (fun q => by have := Int64.lt_iff_toInt_lt.1 q; omega), if_pos rfl]] at hc
      cases hc
    · refine g_b (M := law_M) 584 rfl rfl rfl ?_
      refine g_v (M := law_M) 585 _ rfl rfl rfl rfl ?_
      refine rd_arg 1 585 590 HB (by omega) hL rfl rfl rfl rfl rfl rfl ?_
      refine rd_arg 2 590 595 HB (by omega) hL rfl rfl rfl rfl rfl rfl ?_
      obtain ⟨fs, hf⟩ := HB.2.1
      refine g_call (M := law_M) 598 rfl (cq_v rfl (by decide) rfl rfl hf rfl) rfl ?_
      refine (c14 (xs (6 * k + 1)) (xs (6 * k + 2)) k h hr).imp (fun v h1 q => ?_)
      obtain ⟨HB1, x, rfl, q⟩ := q
      have HB := HB1
      refine g_v (M := law_M) 599 _ rfl rfl rfl rfl ?_
      refine rd_arg 1 599 604 HB (by omega) hL rfl rfl rfl rfl rfl rfl ?_
      refine rd_arg 2 604 609 HB (by omega) hL rfl rfl rfl rfl rfl rfl ?_
      obtain ⟨fs2, hf2⟩ := HB.2.2
      refine g_call (M := law_M) 612 rfl (cq_v rfl (by decide) rfl rfl hf2 rfl) rfl ?_
      refine q.imp (fun v2 h2 q2 => ?_)
      obtain ⟨rfl, hr2⟩ := q2
      refine g_icmp (M := law_M) 862 615 rfl rfl rfl (fun _ => NX h2 hr2) (fun hc => ?_)
      exact absurd (of_decide_eq_false (show decide (x = x) = false from hc)) (by simp)
    · refine g_b (M := law_M) 617 rfl rfl rfl ?_
      refine g_v (M := law_M) 618 _ rfl rfl rfl rfl ?_
      refine rd_arg 1 618 623 HB (by omega) hL rfl rfl rfl rfl rfl rfl ?_
      obtain ⟨fs, hf⟩ := HB.2.1
      refine g_call (M := law_M) 626 rfl (cq_v rfl (by decide) rfl rfl hf rfl) rfl ?_
      refine (c15 (xs (6 * k + 1)) k h hr).imp (fun v h1 q => ?_)
      obtain ⟨HB1, x, rfl, q⟩ := q
      have HB := HB1
      refine g_v (M := law_M) 627 _ rfl rfl rfl rfl ?_
      refine rd_arg 1 627 632 HB (by omega) hL rfl rfl rfl rfl rfl rfl ?_
      obtain ⟨fs2, hf2⟩ := HB.2.2
      refine g_call (M := law_M) 635 rfl (cq_v rfl (by decide) rfl rfl hf2 rfl) rfl ?_
      refine q.imp (fun v2 h2 q2 => ?_)
      obtain ⟨rfl, hr2⟩ := q2
      refine g_icmp (M := law_M) 862 638 rfl rfl rfl (fun _ => NX h2 hr2) (fun hc => ?_)
      exact absurd (of_decide_eq_false (show decide (x = x) = false from hc)) (by simp)
    · refine g_b (M := law_M) 640 rfl rfl rfl ?_
      refine g_v (M := law_M) 641 _ rfl rfl rfl rfl ?_
      obtain ⟨fs, hf⟩ := HB.2.1
      refine g_call (M := law_M) 644 rfl (cq_v rfl (by decide) rfl rfl hf rfl) rfl ?_
      refine (c16 k h hr).imp (fun v h1 q => ?_)
      obtain ⟨HB1, x, rfl, q⟩ := q
      have HB := HB1
      refine g_v (M := law_M) 645 _ rfl rfl rfl rfl ?_
      obtain ⟨fs2, hf2⟩ := HB.2.2
      refine g_call (M := law_M) 648 rfl (cq_v rfl (by decide) rfl rfl hf2 rfl) rfl ?_
      refine q.imp (fun v2 h2 q2 => ?_)
      obtain ⟨rfl, hr2⟩ := q2
      refine g_icmp (M := law_M) 862 651 rfl rfl rfl (fun _ => NX h2 hr2) (fun hc => ?_)
      exact absurd (of_decide_eq_false (show decide (x = x) = false from hc)) (by simp)
    · refine g_b (M := law_M) 653 rfl rfl rfl ?_
      refine g_v (M := law_M) 654 _ rfl rfl rfl rfl ?_
      refine rd_arg 1 654 659 HB (by omega) hL rfl rfl rfl rfl rfl rfl ?_
      obtain ⟨fs, hf⟩ := HB.2.1
      refine g_call (M := law_M) 662 rfl (cq_v rfl (by decide) rfl rfl hf rfl) rfl ?_
      refine (c17 (xs (6 * k + 1)) k h hr).imp (fun v h1 q => ?_)
      obtain ⟨HB1, x, rfl, q⟩ := q
      have HB := HB1
      refine g_v (M := law_M) 663 _ rfl rfl rfl rfl ?_
      refine rd_arg 1 663 668 HB (by omega) hL rfl rfl rfl rfl rfl rfl ?_
      obtain ⟨fs2, hf2⟩ := HB.2.2
      refine g_call (M := law_M) 671 rfl (cq_v rfl (by decide) rfl rfl hf2 rfl) rfl ?_
      refine q.imp (fun v2 h2 q2 => ?_)
      obtain ⟨rfl, hr2⟩ := q2
      refine g_icmp (M := law_M) 862 674 rfl rfl rfl (fun _ => NX h2 hr2) (fun hc => ?_)
      exact absurd (of_decide_eq_false (show decide (x = x) = false from hc)) (by simp)
    · refine g_b (M := law_M) 676 rfl rfl rfl ?_
      refine g_v (M := law_M) 677 _ rfl rfl rfl rfl ?_
      refine rd_arg 1 677 682 HB (by omega) hL rfl rfl rfl rfl rfl rfl ?_
      refine rd_arg 2 682 687 HB (by omega) hL rfl rfl rfl rfl rfl rfl ?_
      obtain ⟨fs, hf⟩ := HB.2.1
      refine g_call (M := law_M) 690 rfl (cq_v rfl (by decide) rfl rfl hf rfl) rfl ?_
      refine (c18 (xs (6 * k + 1)) (xs (6 * k + 2)) k h hr).imp (fun v h1 q => ?_)
      obtain ⟨HB1, x, rfl, q⟩ := q
      have HB := HB1
      refine g_v (M := law_M) 691 _ rfl rfl rfl rfl ?_
      refine rd_arg 1 691 696 HB (by omega) hL rfl rfl rfl rfl rfl rfl ?_
      refine rd_arg 2 696 701 HB (by omega) hL rfl rfl rfl rfl rfl rfl ?_
      obtain ⟨fs2, hf2⟩ := HB.2.2
      refine g_call (M := law_M) 704 rfl (cq_v rfl (by decide) rfl rfl hf2 rfl) rfl ?_
      refine q.imp (fun v2 h2 q2 => ?_)
      obtain ⟨rfl, hr2⟩ := q2
      refine g_p (M := law_M) 705 rfl rfl rfl rfl ?_
      refine g_if (M := law_M) 862 708 rfl rfl rfl (fun _ => NX h2 hr2) (fun hc => ?_)
      rw [show lg_cmp x x = 0 by unfold lg_cmp; rw [if_neg (fun q => by have := Int64.lt_iff_toInt_lt.1 q; omega), if_pos rfl]] at hc
      cases hc
    · refine g_b (M := law_M) 710 rfl rfl rfl ?_
      refine g_v (M := law_M) 711 _ rfl rfl rfl rfl ?_
      refine rd_arg 1 711 716 HB (by omega) hL rfl rfl rfl rfl rfl rfl ?_
      refine rd_arg 2 716 721 HB (by omega) hL rfl rfl rfl rfl rfl rfl ?_
      obtain ⟨fs, hf⟩ := HB.2.1
      refine g_call (M := law_M) 724 rfl (cq_v rfl (by decide) rfl rfl hf rfl) rfl ?_
      refine (c19 (xs (6 * k + 1)) (xs (6 * k + 2)) k h hr).imp (fun v h1 q => ?_)
      obtain ⟨HB1, x, rfl, q⟩ := q
      have HB := HB1
      refine g_v (M := law_M) 725 _ rfl rfl rfl rfl ?_
      refine rd_arg 1 725 730 HB (by omega) hL rfl rfl rfl rfl rfl rfl ?_
      refine rd_arg 2 730 735 HB (by omega) hL rfl rfl rfl rfl rfl rfl ?_
      obtain ⟨fs2, hf2⟩ := HB.2.2
      refine g_call (M := law_M) 738 rfl (cq_v rfl (by decide) rfl rfl hf2 rfl) rfl ?_
      refine q.imp (fun v2 h2 q2 => ?_)
      obtain ⟨rfl, hr2⟩ := q2
      refine g_icmp (M := law_M) 862 741 rfl rfl rfl (fun _ => NX h2 hr2) (fun hc => ?_)
      exact absurd (of_decide_eq_false (show decide (x = x) = false from hc)) (by simp)
    · refine g_b (M := law_M) 743 rfl rfl rfl ?_
      refine g_v (M := law_M) 744 _ rfl rfl rfl rfl ?_
      refine rd_arg 1 744 749 HB (by omega) hL rfl rfl rfl rfl rfl rfl ?_
      refine rd_arg 2 749 754 HB (by omega) hL rfl rfl rfl rfl rfl rfl ?_
      refine g_p (M := law_M) 755 rfl rfl rfl rfl ?_
      refine g_p (M := law_M) 757 rfl rfl rfl rfl ?_
      refine g_p (M := law_M) 758 rfl rfl rfl rfl ?_
      refine rd_arg 3 758 763 HB (by omega) hL rfl rfl rfl rfl rfl rfl ?_
      refine g_p (M := law_M) 764 rfl rfl rfl rfl ?_
      refine g_h (M := law_M) 767 rfl rfl rfl rfl ?_
      refine g_p (M := law_M) 768 rfl rfl rfl rfl ?_
      refine g_p (M := law_M) 769 rfl rfl rfl rfl ?_
      refine rd_arg 4 769 774 HB (by omega) hL rfl rfl rfl rfl rfl rfl ?_
      obtain ⟨fs, hf⟩ := HB.2.1
      refine g_call (M := law_M) 777 rfl (cq_v rfl (by decide) rfl rfl hf rfl) rfl ?_
      refine (c20 (xs (6 * k + 1)) (((xs (6 * k + 2)).toInt64 <<< (((Int8.ofInt 32).toInt32).toInt64 &&& 63)) ||| ((xs (6 * k + 3)).toInt64 &&& 4294967295)) (xs (6 * k + 4)) k h hr).imp (fun v h1 q => ?_)
      obtain ⟨HB1, x, rfl, q⟩ := q
      have HB := HB1
      refine g_v (M := law_M) 778 _ rfl rfl rfl rfl ?_
      refine rd_arg 1 778 783 HB (by omega) hL rfl rfl rfl rfl rfl rfl ?_
      refine rd_arg 2 783 788 HB (by omega) hL rfl rfl rfl rfl rfl rfl ?_
      refine g_p (M := law_M) 789 rfl rfl rfl rfl ?_
      refine g_p (M := law_M) 791 rfl rfl rfl rfl ?_
      refine g_p (M := law_M) 792 rfl rfl rfl rfl ?_
      refine rd_arg 3 792 797 HB (by omega) hL rfl rfl rfl rfl rfl rfl ?_
      refine g_p (M := law_M) 798 rfl rfl rfl rfl ?_
      refine g_h (M := law_M) 801 rfl rfl rfl rfl ?_
      refine g_p (M := law_M) 802 rfl rfl rfl rfl ?_
      refine g_p (M := law_M) 803 rfl rfl rfl rfl ?_
      refine rd_arg 4 803 808 HB (by omega) hL rfl rfl rfl rfl rfl rfl ?_
      obtain ⟨fs2, hf2⟩ := HB.2.2
      refine g_call (M := law_M) 811 rfl (cq_v rfl (by decide) rfl rfl hf2 rfl) rfl ?_
      refine q.imp (fun v2 h2 q2 => ?_)
      obtain ⟨rfl, hr2⟩ := q2
      refine g_icmp (M := law_M) 862 814 rfl rfl rfl (fun _ => NX h2 hr2) (fun hc => ?_)
      exact absurd (of_decide_eq_false (show decide (x = x) = false from hc)) (by simp)
    · refine g_b (M := law_M) 816 rfl rfl rfl ?_
      refine g_v (M := law_M) 817 _ rfl rfl rfl rfl ?_
      refine rd_arg 1 817 822 HB (by omega) hL rfl rfl rfl rfl rfl rfl ?_
      obtain ⟨fs, hf⟩ := HB.2.1
      refine g_call (M := law_M) 825 rfl (cq_v rfl (by decide) rfl rfl hf rfl) rfl ?_
      refine (c21 (xs (6 * k + 1)) k h hr).imp (fun v h1 q => ?_)
      obtain ⟨HB1, x, rfl, q⟩ := q
      have HB := HB1
      refine g_v (M := law_M) 826 _ rfl rfl rfl rfl ?_
      refine rd_arg 1 826 831 HB (by omega) hL rfl rfl rfl rfl rfl rfl ?_
      obtain ⟨fs2, hf2⟩ := HB.2.2
      refine g_call (M := law_M) 834 rfl (cq_v rfl (by decide) rfl rfl hf2 rfl) rfl ?_
      refine q.imp (fun v2 h2 q2 => ?_)
      obtain ⟨rfl, hr2⟩ := q2
      refine g_icmp (M := law_M) 862 837 rfl rfl rfl (fun _ => NX h2 hr2) (fun hc => ?_)
      exact absurd (of_decide_eq_false (show decide (x = x) = false from hc)) (by simp)
    · refine g_b (M := law_M) 839 rfl rfl rfl ?_
      refine g_v (M := law_M) 840 _ rfl rfl rfl rfl ?_
      refine rd_arg 1 840 845 HB (by omega) hL rfl rfl rfl rfl rfl rfl ?_
      obtain ⟨fs, hf⟩ := HB.2.1
      refine g_call (M := law_M) 848 rfl (cq_v rfl (by decide) rfl rfl hf rfl) rfl ?_
      refine (c22 (xs (6 * k + 1)) k h hr).imp (fun v h1 q => ?_)
      obtain ⟨HB1, x, rfl, q⟩ := q
      have HB := HB1
      refine g_v (M := law_M) 849 _ rfl rfl rfl rfl ?_
      refine rd_arg 1 849 854 HB (by omega) hL rfl rfl rfl rfl rfl rfl ?_
      obtain ⟨fs2, hf2⟩ := HB.2.2
      refine g_call (M := law_M) 857 rfl (cq_v rfl (by decide) rfl rfl hf2 rfl) rfl ?_
      refine q.imp (fun v2 h2 q2 => ?_)
      obtain ⟨rfl, hr2⟩ := q2
      refine g_icmp (M := law_M) 862 860 rfl rfl rfl (fun _ => NX h2 hr2) (fun hc => ?_)
      exact absurd (of_decide_eq_false (show decide (x = x) = false from hc)) (by simp)
    · exact g_b (M := law_M) 862 rfl rfl rfl (NX h (hR k h hr))
    · exact g_b (M := law_M) 862 rfl rfl rfl (NX h (hR k h hr))
    · exact g_b (M := law_M) 862 rfl rfl rfl (NX h (hR k h hr))
    · exact g_b (M := law_M) 862 rfl rfl rfl (NX h (hR k h hr))
    · exact g_b (M := law_M) 862 rfl rfl rfl (NX h (hR k h hr))
    · exact g_b (M := law_M) 862 rfl rfl rfl (NX h (hR k h hr))
    · exact g_b (M := law_M) 862 rfl rfl rfl (NX h (hR k h hr))
    · exact g_b (M := law_M) 862 rfl rfl rfl (NX h (hR k h hr))
    · exact g_b (M := law_M) 862 rfl rfl rfl (NX h (hR k h hr))
end LOOP
