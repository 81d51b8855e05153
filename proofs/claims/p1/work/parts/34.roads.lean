/-! A SCRIPT OF SIX INTS ON FRESH OBJECTS: roads -/
/-- the law's answer, within the room -/
def law_K : Option Value → eg_H → Prop := fun v h2 => v = some (.int 1) ∧ h2.2.1 ≤ 3 + 350723 ∧ h2.2.2 ≤ 8050080
def law_at (L : Nat) (xs : Nat → Int32) : Prop := ∃ (n d : Nat) (h2 : eg_H), d ≤ 1000 ∧ eg_run cl kY 3 (some .boolean) law_M (eg_go cl kY 3 mt n d) n (0, [some (.ref 0), none, none, none], [], eg_h0 L xs) = some (some (.int 1), h2) ∧ h2.2.1 ≤ 3 + 350723 ∧ h2.2.2 ≤ 8050080
noncomputable def ev_i1 (x : Value) : Bool := Value.rec (motive := fun _ => Bool) (fun y => Nat.beq (u32 y) 1) (fun _ => false) (fun _ => false) (fun _ => false) false (fun _ => false) (fun _ => false) x
noncomputable def fin_q (o : Option es) : Bool := Option.rec (motive := fun _ => Bool) false (fun s => Prod.rec (motive := fun _ => Bool) (fun l p => Prod.rec (motive := fun _ => Bool) (fun v h => List.rec (motive := fun _ => Bool) (Option.rec (motive := fun _ => Bool) false (fun x => ev_i1 x && Nat.ble h.2.1 350726 && Nat.ble h.2.2 8050080) v) (fun _ _ _ => false) l) p) s) o
theorem fin_ok {σ : sg} {o : Option es} (h : fin_q o = true) : ∃ s, o = some s ∧ ewS σ law_K s := by
  cases o with
  | none => cases h
  | some s =>
    refine ⟨s, rfl, ?_⟩
    obtain ⟨l, v, hh⟩ := s
    cases l with
    | cons f fs => cases h
    | nil =>
      cases v with
      | none => cases h
      | some x =>
        replace h : (ev_i1 x && Nat.ble hh.2.1 350726 && Nat.ble hh.2.2 8050080) = true := h
        rw [Bool.and_eq_true, Bool.and_eq_true] at h
        obtain ⟨⟨h1, h2⟩, h3⟩ := h
        refine ⟨?_, be h2, be h3⟩
        cases x with
        | int y =>
          have e : y = 1 := u32_inj (bq h1)
          rw [e]
          rfl
        | _ => cases h1
theorem i8_two (x : Int32) : x.toInt8.toInt32.toInt8.toInt32 = x.toInt8.toInt32 := by
  have e : x.toInt8.toInt32.toInt8 = x.toInt8 := by simp
  rw [e]
/-- what tokens stand for: below 256 bytes, from 300 on the script's ints, from 320 on what is made of them -/
def sgm (L : Nat) (xs : Nat → Int32) (bt wt : List Int32) (dt : List Int64) : sg := (fun j => bif Nat.blt j 256 then (bt.getD j 0).toInt8.toInt32 else bif Nat.blt j 320 then xs (j - 300) else wt.getD (j - 320) 0, fun j => dt.getD (j - 1) 0, some (.inl (.int, L, fun j => .int (xs j))))
theorem sgm_b {L : Nat} {xs : Nat → Int32} {bt wt : List Int32} {dt : List Int64} : ∀ j, j < 256 → ((sgm L xs bt wt dt).1 j).toInt8.toInt32 = (sgm L xs bt wt dt).1 j := by
  intro j hj
  have e : (sgm L xs bt wt dt).1 j = (bt.getD j 0).toInt8.toInt32 := by
    show (bif Nat.blt j 256 then (bt.getD j 0).toInt8.toInt32 else bif Nat.blt j 320 then xs (j - 300) else wt.getD (j - 320) 0) = _
    rw [blt_t hj]
    rfl
  rw [e]
  exact i8_two _
theorem tel_ck : ((List.range 19).all fun j => decide (ev_d (.int (Int32.ofNat 0)) (bf_get Sa0_1.2.2.2 j) = st_tel j)) = true := by decide +kernel
theorem fix_ck : ((List.range 15).all fun j => decide (ev_d (.int (Int32.ofNat 0)) (bf_get Sa0_2.2.2.2 j) = st_fix j)) = true := by decide +kernel
theorem st_out (l : List Int32) {j : Nat} (h : l.length ≤ j) : (Value.int (l.getD j 0)) = .int 0 := by
  rw [List.getD_eq_getElem?_getD, List.getElem?_eq_none h]
  rfl
/-- the cells at the law's entry, as the quick machine has them -/
theorem h0_eq {σ : sg} {L : Nat} {xs : Nat → Int32} (hc : σ.2.2 = some (.inl (.int, L, fun j => .int (xs j)))) : eh_h σ Sa0.2.2 = eg_h0 L xs := by
  refine Prod.ext ?_ rfl
  funext k
  match k with
  | 0 => rw [eh_0, hc]; rfl
  | 1 =>
    show some (ec_c σ Sa0_1) = some (.inl (.int, 19, st_tel))
    have e : ec_c σ Sa0_1 = .inl (.int, 19, fun i => bif Nat.blt i 19 then sv σ (ev_d (.int (Int32.ofNat 0)) (bf_get Sa0_1.2.2.2 i)) else .int 0) := rfl
    rw [e]
    congr 4
    funext i
    by_cases hi : i < 19
    · rw [blt_t hi]
      have := List.all_eq_true.1 tel_ck i (List.mem_range.2 hi)
      have e2 := of_decide_eq_true this
      show sv σ (ev_d (.int (Int32.ofNat 0)) (bf_get Sa0_1.2.2.2 i)) = _
      rw [e2]
      rfl
    · have e3 : Nat.blt i 19 = false := by
        cases q : Nat.blt i 19 with
        | false => rfl
        | true => exact absurd (bl q) hi
      rw [e3]
      exact (st_out ([16, 17, 18, 0, 8, 7, 9, 6, 10, 5, 11, 4, 12, 3, 13, 2, 14, 1, 15] : List Int32) (show 19 ≤ i by omega)).symm
  | 2 =>
    show some (ec_c σ Sa0_2) = some (.inl (.int, 15, st_fix))
    have e : ec_c σ Sa0_2 = .inl (.int, 15, fun i => bif Nat.blt i 15 then sv σ (ev_d (.int (Int32.ofNat 0)) (bf_get Sa0_2.2.2.2 i)) else .int 0) := rfl
    rw [e]
    congr 4
    funext i
    by_cases hi : i < 15
    · rw [blt_t hi]
      have := List.all_eq_true.1 fix_ck i (List.mem_range.2 hi)
      have e2 := of_decide_eq_true this
      show sv σ (ev_d (.int (Int32.ofNat 0)) (bf_get Sa0_2.2.2.2 i)) = _
      rw [e2]
      rfl
    · have e3 : Nat.blt i 15 = false := by
        cases q : Nat.blt i 15 with
        | false => rfl
        | true => exact absurd (bl q) hi
      rw [e3]
      exact (st_out ([0, 32, 32, 24, 24, 24, 20, 20, 40, 56, 24, 28, 28, 24, 24] : List Int32) (show 15 ≤ i by omega)).symm
  | k + 3 =>
    rw [eh_no (h := Sa0.2.2) (by omega) (show ¬ k + 3 < 3 by omega)]
    rfl
/-- the law's run out of what stands behind the constructors -/
theorem law_of {σ : sg} {L : Nat} {xs : Nat → Int32} (hc : σ.2.2 = some (.inl (.int, L, fun j => .int (xs j)))) (hσ : ∀ j, j < 256 → (σ.1 j).toInt8.toInt32 = σ.1 j) (k : ewS σ law_K Sa2) : law_at L xs := by
  have hl : ft_ok σ ([], []) := ⟨(fun e he => by cases he), (fun e he => by cases he)⟩
  have k1 := ev_rs_ok hσ (ob_ok0 σ) hl _ (es_q_ok Sa2_r) k
  have k0 := ev_rs_ok hσ (ob_ok0 σ) hl _ (es_q_ok Sa1_r) k1
  obtain ⟨D, hD, v, h2, ⟨n, hn⟩, hv, h3, h4⟩ := k0
  have e : D = kdL := (Option.some.inj hD).symm
  subst e
  have hv2 : v = some (.int 1) := hv
  subst hv2
  refine ⟨n, 1000, h2, Nat.le_refl _, ?_, h3, h4⟩
  rw [← h0_eq hc]
  exact hn
theorem law_rd {L : Nat} {xs : Nat → Int32} {bt wt : List Int32} {dt : List Int64} {ob : eo} {f : ft} {l : List Nat} (hob : ob_ok (sgm L xs bt wt dt) ob) (hf : ft_ok (sgm L xs bt wt dt) f) (hr : fin_q (ev_rs ob f l Sa2) = true) : law_at L xs := by
  obtain ⟨s, e, k⟩ := fin_ok (σ := sgm L xs bt wt dt) hr
  exact law_of rfl sgm_b (ev_rs_ok sgm_b hob hf l e k)
/-! facts -/
section FT
variable {σ : sg}
theorem ft_nil : fa_ok σ [] := fun e he => by cases he
theorem fj_nil : fj_ok σ [] := fun e he => by cases he
theorem fj_cons {e : Nat × Nat × Nat × Nat × Nat} {l : fj} (h : fj_1 σ e) (k : fj_ok σ l) : fj_ok σ (e :: l) := by
  intro x hx
  rcases List.mem_cons.1 hx with rfl | hx
  · exact h
  · exact k x hx
theorem ft_cons {e : Nat × Nat × Nat × Nat} {l : fa} (h : ft_1 σ e) (k : fa_ok σ l) : fa_ok σ (e :: l) := by
  intro x hx
  rcases List.mem_cons.1 hx with rfl | hx
  · exact h
  · exact k x hx
theorem f_b {o x y z : Nat} (ho : Nat.blt o 40 = true) (h : ∀ r, eg_p (fi o) (sv σ (ev_d .null y) :: sv σ (ev_d .null x) :: r) = some (sv σ (ev_d .null z) :: r)) : ft_1 σ (o, x, y, z) := by
  unfold ft_1
  rw [if_pos (show o < 40 from bl ho)]
  exact h
theorem f_u {o x y z : Nat} (ho : Nat.ble 40 o = true) (ho2 : Nat.blt o 200 = true) (h : ∀ r, eg_p (fi o) (sv σ (ev_d .null x) :: r) = some (sv σ (ev_d .null z) :: r)) : ft_1 σ (o, x, y, z) := by
  unfold ft_1
  rw [if_neg (show ¬ o < 40 from Nat.not_lt.2 (be ho)), if_pos (show o < 200 from bl ho2)]
  exact h
theorem f_c {o x y z : Nat} {a b : Int32} (ho : Nat.ble 200 o = true) (ho2 : Nat.blt o 300 = true) (h1 : sv σ (ev_d .null x) = .int a) (h2 : sv σ (ev_d .null y) = .int b) (h3 : eg_cnd (fc (o - 200)) a b = Nat.beq z 9) : ft_1 σ (o, x, y, z) := by
  have := be ho
  unfold ft_1
  rw [if_neg (show ¬ o < 40 by omega), if_neg (show ¬ o < 200 by omega), if_pos (show o < 300 from bl ho2)]
  exact ⟨a, b, h1, h2, h3⟩
theorem f_s {x z L : Nat} {f : Nat → Value} (hc : σ.2.2 = some (.inl (.int, L, f))) (hx : Nat.blt x L = true) (hx2 : Nat.blt x 2147483648 = true) (h : f x = sv σ (ev_d .null z)) : ft_1 σ (300, x, 0, z) := by
  unfold ft_1
  rw [if_neg (show ¬ 300 < 40 by decide), if_neg (show ¬ 300 < 200 by decide), if_neg (show ¬ 300 < 300 by decide), if_pos rfl]
  exact ⟨L, f, hc, bl hx, bl hx2, h⟩
theorem f_l {z L : Nat} {f : Nat → Value} (hc : σ.2.2 = some (.inl (.int, L, f))) (h : sv σ (ev_d .null z) = .int (Int32.ofNat L)) : ft_1 σ (301, 0, 0, z) := by
  unfold ft_1
  rw [if_neg (show ¬ 301 < 40 by decide), if_neg (show ¬ 301 < 200 by decide), if_neg (show ¬ 301 < 300 by decide), if_neg (show ¬ 301 = 300 by decide)]
  exact ⟨L, f, hc, h⟩
end FT
section CND
variable {x y : Int32}
theorem c_lt_t (h : x.toInt < y.toInt) : eg_cnd .lt x y = true := decide_eq_true (Int32.lt_iff_toInt_lt.2 h)
theorem c_lt_f (h : y.toInt ≤ x.toInt) : eg_cnd .lt x y = false := decide_eq_false (fun q => by have := Int32.lt_iff_toInt_lt.1 q; omega)
theorem c_ge_t (h : y.toInt ≤ x.toInt) : eg_cnd .ge x y = true := decide_eq_true (Int32.le_iff_toInt_le.2 h)
theorem c_ge_f (h : x.toInt < y.toInt) : eg_cnd .ge x y = false := decide_eq_false (fun q => by have := Int32.le_iff_toInt_le.1 q; omega)
theorem c_gt_t (h : y.toInt < x.toInt) : eg_cnd .gt x y = true := decide_eq_true (Int32.lt_iff_toInt_lt.2 h)
theorem c_gt_f (h : x.toInt ≤ y.toInt) : eg_cnd .gt x y = false := decide_eq_false (fun q => by have := Int32.lt_iff_toInt_lt.1 q; omega)
theorem c_le_t (h : x.toInt ≤ y.toInt) : eg_cnd .le x y = true := decide_eq_true (Int32.le_iff_toInt_le.2 h)
theorem c_le_f (h : y.toInt < x.toInt) : eg_cnd .le x y = false := decide_eq_false (fun q => by have := Int32.le_iff_toInt_le.1 q; omega)
theorem c_eq_t (h : x.toInt = y.toInt) : eg_cnd .eq x y = true := decide_eq_true (Int32.toInt_inj.1 h)
theorem c_eq_f (h : x.toInt ≠ y.toInt) : eg_cnd .eq x y = false := decide_eq_false (fun q => h (by rw [q]))
theorem c_ne_t (h : x.toInt ≠ y.toInt) : eg_cnd .ne x y = true := decide_eq_true (fun q => h (by rw [q]))
theorem c_ne_f (h : x.toInt = y.toInt) : eg_cnd .ne x y = false := decide_eq_false (fun q => q (Int32.toInt_inj.1 h))
theorem l_gt {x y : Int64} (h : y.toInt < x.toInt) : lg_cmp x y = Int32.ofNat 1 := by
  unfold lg_cmp
  rw [if_pos (Int64.lt_iff_toInt_lt.2 h)]
  rfl
theorem l_eq {x y : Int64} (h : x.toInt = y.toInt) : lg_cmp x y = Int32.ofNat 0 := by
  unfold lg_cmp
  rw [if_neg (fun q => by have := Int64.lt_iff_toInt_lt.1 q; omega), if_pos (Int64.toInt_inj.1 h)]
  rfl
theorem l_lt {x y : Int64} (h : x.toInt < y.toInt) : lg_cmp x y = Int32.ofNat 4294967295 := by
  unfold lg_cmp
  rw [if_neg (fun q => by have := Int64.lt_iff_toInt_lt.1 q; omega), if_neg (fun q => by rw [q] at h; omega)]
  rfl
theorem bmod_id (z : Int) (h1 : -4611686018427387904 ≤ z) (h2 : z ≤ 4611686018427387904) : z.bmod (2 ^ 64) = z := by
  apply Int.bmod_eq_of_le <;> omega
theorem af_0 (i : Int32) : i.toInt64.toInt = i.toInt := Int32.toInt_toInt64 i
theorem i32_r (i : Int32) : -2147483648 ≤ i.toInt ∧ i.toInt < 2147483648 := ⟨Int32.le_toInt i, Int32.toInt_lt i⟩
theorem af_m {x y : Int64} {a b : Int} (hx : x.toInt = a) (hy : y.toInt = b) (h1 : -4611686018427387904 ≤ a * b) (h2 : a * b ≤ 4611686018427387904) : (x * y).toInt = a * b := by
  rw [Int64.toInt_mul, hx, hy]
  exact bmod_id _ h1 h2
theorem af_p {x y : Int64} {a b : Int} (hx : x.toInt = a) (hy : y.toInt = b) (h1 : -4611686018427387904 ≤ a + b) (h2 : a + b ≤ 4611686018427387904) : (x + y).toInt = a + b := by
  rw [Int64.toInt_add, hx, hy]
  exact bmod_id _ h1 h2
theorem af_s {x y : Int64} {a b : Int} (hx : x.toInt = a) (hy : y.toInt = b) (h1 : -4611686018427387904 ≤ a - b) (h2 : a - b ≤ 4611686018427387904) : (x - y).toInt = a - b := by
  rw [Int64.toInt_sub, hx, hy]
  exact bmod_id _ h1 h2
theorem i32_eq {x y : Int32} (h : x.toInt = y.toInt) : x = y := Int32.toInt_inj.1 h
end CND
/-! roads of a call on fresh objects, printed by wip/gen/paths.py -/
def F_L0 : fa := [(301, 0, 0, 1)]
set_option maxHeartbeats 0 in
theorem R_L0 : fin_q (ev_rs eo0 (F_L0, []) [3] Sa2) = true := by decide +kernel
theorem rd_L0 (xs : Nat → Int32) : law_at 0 xs := by
  exact law_rd (L := 0) (xs := xs) (bt := []) (wt := []) (dt := []) (f := (F_L0, [])) (ob_ok0 _) ⟨ft_cons (f_l rfl rfl) (ft_nil), fj_nil⟩ R_L0
def F_L1 : fa := [(301, 0, 0, 9)]
set_option maxHeartbeats 0 in
theorem R_L1 : fin_q (ev_rs eo0 (F_L1, []) [3] Sa2) = true := by decide +kernel
theorem rd_L1 (xs : Nat → Int32) : law_at 1 xs := by
  exact law_rd (L := 1) (xs := xs) (bt := []) (wt := []) (dt := []) (f := (F_L1, [])) (ob_ok0 _) ⟨ft_cons (f_l rfl rfl) (ft_nil), fj_nil⟩ R_L1
def F_L2 : fa := [(301, 0, 0, 17)]
set_option maxHeartbeats 0 in
theorem R_L2 : fin_q (ev_rs eo0 (F_L2, []) [3] Sa2) = true := by decide +kernel
theorem rd_L2 (xs : Nat → Int32) : law_at 2 xs := by
  exact law_rd (L := 2) (xs := xs) (bt := []) (wt := []) (dt := []) (f := (F_L2, [])) (ob_ok0 _) ⟨ft_cons (f_l rfl rfl) (ft_nil), fj_nil⟩ R_L2
def F_L3 : fa := [(301, 0, 0, 25)]
set_option maxHeartbeats 0 in
theorem R_L3 : fin_q (ev_rs eo0 (F_L3, []) [3] Sa2) = true := by decide +kernel
theorem rd_L3 (xs : Nat → Int32) : law_at 3 xs := by
  exact law_rd (L := 3) (xs := xs) (bt := []) (wt := []) (dt := []) (f := (F_L3, [])) (ob_ok0 _) ⟨ft_cons (f_l rfl rfl) (ft_nil), fj_nil⟩ R_L3
def F_L4 : fa := [(301, 0, 0, 33)]
set_option maxHeartbeats 0 in
theorem R_L4 : fin_q (ev_rs eo0 (F_L4, []) [3] Sa2) = true := by decide +kernel
theorem rd_L4 (xs : Nat → Int32) : law_at 4 xs := by
  exact law_rd (L := 4) (xs := xs) (bt := []) (wt := []) (dt := []) (f := (F_L4, [])) (ob_ok0 _) ⟨ft_cons (f_l rfl rfl) (ft_nil), fj_nil⟩ R_L4
def F_L5 : fa := [(301, 0, 0, 41)]
set_option maxHeartbeats 0 in
theorem R_L5 : fin_q (ev_rs eo0 (F_L5, []) [3] Sa2) = true := by decide +kernel
theorem rd_L5 (xs : Nat → Int32) : law_at 5 xs := by
  exact law_rd (L := 5) (xs := xs) (bt := []) (wt := []) (dt := []) (f := (F_L5, [])) (ob_ok0 _) ⟨ft_cons (f_l rfl rfl) (ft_nil), fj_nil⟩ R_L5
def F_0_0 : fa := [(301, 0, 0, 49), (300, 0, 0, 2405), (1, 2405, 249, 1), (300, 1, 0, 2413), (300, 2, 0, 2421), (300, 3, 0, 2429), (300, 4, 0, 2437), (300, 5, 0, 2445), (2, 2413, 193, 2565), (40, 2565, 0, 5), (2, 2413, 129, 2573), (40, 2573, 0, 13), (2, 2413, 65, 2581), (40, 2581, 0, 21), (40, 2413, 0, 29), (2, 2421, 193, 2589), (40, 2589, 0, 37), (2, 2421, 129, 2597), (40, 2597, 0, 45), (2, 2421, 65, 2605), (40, 2605, 0, 53), (40, 2421, 0, 61), (2, 2429, 193, 2613), (40, 2613, 0, 69), (2, 2429, 129, 2621), (40, 2621, 0, 77), (2, 2429, 65, 2629), (40, 2629, 0, 85), (40, 2429, 0, 93), (2, 2437, 193, 2637), (40, 2637, 0, 101), (2, 2437, 129, 2645), (40, 2645, 0, 109), (2, 2437, 65, 2653), (40, 2653, 0, 117), (40, 2437, 0, 125), (2, 2445, 193, 2661), (40, 2661, 0, 133), (2, 2445, 129, 2669), (40, 2669, 0, 141), (2, 2445, 65, 2677), (40, 2677, 0, 149), (40, 2445, 0, 157), (2, 2413, 1, 2685), (40, 2685, 0, 165), (2, 2421, 1, 2693), (40, 2693, 0, 173), (2, 2429, 1, 2701), (40, 2701, 0, 181), (2, 2437, 1, 2709), (40, 2709, 0, 189), (2, 2445, 1, 2717), (40, 2717, 0, 197)]
set_option maxHeartbeats 0 in
theorem R_0_0 : fin_q (ev_rs eo0 (F_0_0, []) [11] Sa2) = true := by decide +kernel
theorem rd_0_0 (xs : Nat → Int32) (h0 : xs 0 &&& Int32.ofNat 31 = Int32.ofNat 0) : law_at 6 xs := by
  exact law_rd (L := 6) (xs := xs) (bt := [((xs 1) >>> ((Int32.ofNat 24) &&& 31)), ((xs 1) >>> ((Int32.ofNat 16) &&& 31)), ((xs 1) >>> ((Int32.ofNat 8) &&& 31)), (xs 1), ((xs 2) >>> ((Int32.ofNat 24) &&& 31)), ((xs 2) >>> ((Int32.ofNat 16) &&& 31)), ((xs 2) >>> ((Int32.ofNat 8) &&& 31)), (xs 2), ((xs 3) >>> ((Int32.ofNat 24) &&& 31)), ((xs 3) >>> ((Int32.ofNat 16) &&& 31)), ((xs 3) >>> ((Int32.ofNat 8) &&& 31)), (xs 3), ((xs 4) >>> ((Int32.ofNat 24) &&& 31)), ((xs 4) >>> ((Int32.ofNat 16) &&& 31)), ((xs 4) >>> ((Int32.ofNat 8) &&& 31)), (xs 4), ((xs 5) >>> ((Int32.ofNat 24) &&& 31)), ((xs 5) >>> ((Int32.ofNat 16) &&& 31)), ((xs 5) >>> ((Int32.ofNat 8) &&& 31)), (xs 5), ((xs 1) >>> ((Int32.ofNat 0) &&& 31)), ((xs 2) >>> ((Int32.ofNat 0) &&& 31)), ((xs 3) >>> ((Int32.ofNat 0) &&& 31)), ((xs 4) >>> ((Int32.ofNat 0) &&& 31)), ((xs 5) >>> ((Int32.ofNat 0) &&& 31))]) (wt := [((xs 1) >>> ((Int32.ofNat 24) &&& 31)), ((xs 1) >>> ((Int32.ofNat 16) &&& 31)), ((xs 1) >>> ((Int32.ofNat 8) &&& 31)), ((xs 2) >>> ((Int32.ofNat 24) &&& 31)), ((xs 2) >>> ((Int32.ofNat 16) &&& 31)), ((xs 2) >>> ((Int32.ofNat 8) &&& 31)), ((xs 3) >>> ((Int32.ofNat 24) &&& 31)), ((xs 3) >>> ((Int32.ofNat 16) &&& 31)), ((xs 3) >>> ((Int32.ofNat 8) &&& 31)), ((xs 4) >>> ((Int32.ofNat 24) &&& 31)), ((xs 4) >>> ((Int32.ofNat 16) &&& 31)), ((xs 4) >>> ((Int32.ofNat 8) &&& 31)), ((xs 5) >>> ((Int32.ofNat 24) &&& 31)), ((xs 5) >>> ((Int32.ofNat 16) &&& 31)), ((xs 5) >>> ((Int32.ofNat 8) &&& 31)), ((xs 1) >>> ((Int32.ofNat 0) &&& 31)), ((xs 2) >>> ((Int32.ofNat 0) &&& 31)), ((xs 3) >>> ((Int32.ofNat 0) &&& 31)), ((xs 4) >>> ((Int32.ofNat 0) &&& 31)), ((xs 5) >>> ((Int32.ofNat 0) &&& 31))]) (dt := []) (f := (F_0_0, [])) (ob_ok0 _) ⟨ft_cons (f_l rfl rfl) ( ft_cons (f_s rfl rfl rfl rfl) ( ft_cons (f_b rfl (fun r => congrArg (fun v => some (Value.int v :: r)) h0)) ( ft_cons (f_s rfl rfl rfl rfl) ( ft_cons (f_s rfl rfl rfl rfl) ( ft_cons (f_s rfl rfl rfl rfl) ( ft_cons (f_s rfl rfl rfl rfl) ( ft_cons (f_s rfl rfl rfl rfl) ( ft_cons (f_b rfl (fun r => rfl)) ( ft_cons (f_u rfl rfl (fun r => rfl)) ( ft_cons (f_b rfl (fun r => rfl)) ( ft_cons (f_u rfl rfl (fun r => rfl)) ( ft_cons (f_b rfl (fun r => rfl)) ( ft_cons (f_u rfl rfl (fun r => rfl)) ( ft_cons (f_u rfl rfl (fun r => rfl)) ( ft_cons (f_b rfl (fun r => rfl)) ( ft_cons (f_u rfl rfl (fun r => rfl)) ( ft_cons (f_b rfl (fun r => rfl)) ( ft_cons (f_u rfl rfl (fun r => rfl)) ( ft_cons (f_b rfl (fun r => rfl)) ( ft_cons (f_u rfl rfl (fun r => rfl)) ( ft_cons (f_u rfl rfl (fun r => rfl)) ( ft_cons (f_b rfl (fun r => rfl)) ( ft_cons (f_u rfl rfl (fun r => rfl)) ( ft_cons (f_b rfl (fun r => rfl)) ( ft_cons (f_u rfl rfl (fun r => rfl)) ( ft_cons (f_b rfl (fun r => rfl)) ( ft_cons (f_u rfl rfl (fun r => rfl)) ( ft_cons (f_u rfl rfl (fun r => rfl)) ( ft_cons (f_b rfl (fun r => rfl)) ( ft_cons (f_u rfl rfl (fun r => rfl)) ( ft_cons (f_b rfl (fun r => rfl)) ( ft_cons (f_u rfl rfl (fun r => rfl)) ( ft_cons (f_b rfl (fun r => rfl)) ( ft_cons (f_u rfl rfl (fun r => rfl)) ( ft_cons (f_u rfl rfl (fun r => rfl)) ( ft_cons (f_b rfl (fun r => rfl)) ( ft_cons (f_u rfl rfl (fun r => rfl)) ( ft_cons (f_b rfl (fun r => rfl)) ( ft_cons (f_u rfl rfl (fun r => rfl)) ( ft_cons (f_b rfl (fun r => rfl)) ( ft_cons (f_u rfl rfl (fun r => rfl)) ( ft_cons (f_u rfl rfl (fun r => rfl)) ( ft_cons (f_b rfl (fun r => rfl)) ( ft_cons (f_u rfl rfl (fun r => rfl)) ( ft_cons (f_b rfl (fun r => rfl)) ( ft_cons (f_u rfl rfl (fun r => rfl)) ( ft_cons (f_b rfl (fun r => rfl)) ( ft_cons (f_u rfl rfl (fun r => rfl)) ( ft_cons (f_b rfl (fun r => rfl)) ( ft_cons (f_u rfl rfl (fun r => rfl)) ( ft_cons (f_b rfl (fun r => rfl)) ( ft_cons (f_u rfl rfl (fun r => rfl)) (ft_nil))))))))))))))))))))))))))))))))))))))))))))))))))))), fj_nil⟩ R_0_0
theorem cs_0 (xs : Nat → Int32) (h0 : xs 0 &&& Int32.ofNat 31 = Int32.ofNat 0) : law_at 6 xs := by
  have b1 := i32_r (xs 1)
  have b2 := i32_r (xs 2)
  have b3 := i32_r (xs 3)
  have b4 := i32_r (xs 4)
  have b5 := i32_r (xs 5)
  exact rd_0_0 xs h0 
def F_1_0 : fa := [(301, 0, 0, 49), (300, 0, 0, 2405), (1, 2405, 249, 9), (300, 1, 0, 2413)]
set_option maxHeartbeats 0 in
theorem R_1_0 : fin_q (ev_rs eo0 (F_1_0, []) [6] Sa2) = true := by decide +kernel
theorem rd_1_0 (xs : Nat → Int32) (h0 : xs 0 &&& Int32.ofNat 31 = Int32.ofNat 1) : law_at 6 xs := by
  exact law_rd (L := 6) (xs := xs) (bt := []) (wt := []) (dt := []) (f := (F_1_0, [])) (ob_ok0 _) ⟨ft_cons (f_l rfl rfl) ( ft_cons (f_s rfl rfl rfl rfl) ( ft_cons (f_b rfl (fun r => congrArg (fun v => some (Value.int v :: r)) h0)) ( ft_cons (f_s rfl rfl rfl rfl) (ft_nil)))), fj_nil⟩ R_1_0
theorem cs_1 (xs : Nat → Int32) (h0 : xs 0 &&& Int32.ofNat 31 = Int32.ofNat 1) : law_at 6 xs := by
  have b1 := i32_r (xs 1)
  have b2 := i32_r (xs 2)
  have b3 := i32_r (xs 3)
  have b4 := i32_r (xs 4)
  have b5 := i32_r (xs 5)
  exact rd_1_0 xs h0 
def F_2_0 : fa := [(301, 0, 0, 49), (300, 0, 0, 2405), (1, 2405, 249, 17)]
set_option maxHeartbeats 0 in
theorem R_2_0 : fin_q (ev_rs eo0 (F_2_0, []) [6] Sa2) = true := by decide +kernel
theorem rd_2_0 (xs : Nat → Int32) (h0 : xs 0 &&& Int32.ofNat 31 = Int32.ofNat 2) : law_at 6 xs := by
  exact law_rd (L := 6) (xs := xs) (bt := []) (wt := []) (dt := []) (f := (F_2_0, [])) (ob_ok0 _) ⟨ft_cons (f_l rfl rfl) ( ft_cons (f_s rfl rfl rfl rfl) ( ft_cons (f_b rfl (fun r => congrArg (fun v => some (Value.int v :: r)) h0)) (ft_nil))), fj_nil⟩ R_2_0
theorem cs_2 (xs : Nat → Int32) (h0 : xs 0 &&& Int32.ofNat 31 = Int32.ofNat 2) : law_at 6 xs := by
  have b1 := i32_r (xs 1)
  have b2 := i32_r (xs 2)
  have b3 := i32_r (xs 3)
  have b4 := i32_r (xs 4)
  have b5 := i32_r (xs 5)
  exact rd_2_0 xs h0 
def F_3_0 : fa := [(301, 0, 0, 49), (300, 0, 0, 2405), (1, 2405, 249, 25), (300, 1, 0, 2413), (202, 2413, 1, 9), (41, 2413, 0, 14), (12, 66, 14, 22), (13, 22, 58, 30), (15, 30, 22, 9)]
set_option maxHeartbeats 0 in
theorem R_3_0 : fin_q (ev_rs eo0 (F_3_0, []) [8] Sa2) = true := by decide +kernel
theorem rd_3_0 (xs : Nat → Int32) (h0 : xs 0 &&& Int32.ofNat 31 = Int32.ofNat 3) (g1 : (xs 1).toInt ≤ -1) : law_at 6 xs := by
  have b1 := i32_r (xs 1)
  have D1 : (((xs 1)).toInt64).toInt = 1 * (xs 1).toInt + 0 := by
    have q := af_0 (xs 1)
    omega
  have D2 : (((Int64.ofNat 8) * ((xs 1)).toInt64)).toInt = 8 * (xs 1).toInt + 0 := by
    have q := af_m (show ((Int64.ofNat 8)).toInt = 8 by decide) D1 (by omega) (by omega)
    omega
  have D3 : ((((Int64.ofNat 8) * ((xs 1)).toInt64) + (Int64.ofNat 7))).toInt = 8 * (xs 1).toInt + 7 := by
    have q := af_p D2 (show ((Int64.ofNat 7)).toInt = 7 by decide) (by omega) (by omega)
    omega
  exact law_rd (L := 6) (xs := xs) (bt := []) (wt := []) (dt := [((xs 1)).toInt64, ((Int64.ofNat 8) * ((xs 1)).toInt64), (((Int64.ofNat 8) * ((xs 1)).toInt64) + (Int64.ofNat 7))]) (f := (F_3_0, [])) (ob_ok0 _) ⟨ft_cons (f_l rfl rfl) ( ft_cons (f_s rfl rfl rfl rfl) ( ft_cons (f_b rfl (fun r => congrArg (fun v => some (Value.int v :: r)) h0)) ( ft_cons (f_s rfl rfl rfl rfl) ( ft_cons (f_c (a := (xs 1)) (b := (Int32.ofNat 0)) rfl rfl rfl rfl (c_lt_t (by have a1 : (Int32.ofNat 0).toInt = 0 := (by decide); omega))) ( ft_cons (f_u rfl rfl (fun r => rfl)) ( ft_cons (f_b rfl (fun r => rfl)) ( ft_cons (f_b rfl (fun r => rfl)) ( ft_cons (f_b rfl (fun r => congrArg (fun v => some (Value.int v :: r)) (l_gt (x := (((Int64.ofNat 8) * ((xs 1)).toInt64) + (Int64.ofNat 7))) (y := ((Int64.ofNat 8) * ((xs 1)).toInt64)) (by omega)))) (ft_nil))))))))), fj_nil⟩ R_3_0
def F_3_1 : fa := [(301, 0, 0, 49), (300, 0, 0, 2405), (1, 2405, 249, 25), (300, 1, 0, 1)]
set_option maxHeartbeats 0 in
theorem R_3_1 : fin_q (ev_rs eo0 (F_3_1, []) [9] Sa2) = true := by decide +kernel
theorem rd_3_1 (xs : Nat → Int32) (h0 : xs 0 &&& Int32.ofNat 31 = Int32.ofNat 3) (g1 : (xs 1).toInt = 0) : law_at 6 xs := by
  have e1 : xs 1 = (Int32.ofNat 0) := i32_eq (by rw [g1]; decide)
  have b1 := i32_r (xs 1)
  exact law_rd (L := 6) (xs := xs) (bt := []) (wt := []) (dt := []) (f := (F_3_1, [])) (ob_ok0 _) ⟨ft_cons (f_l rfl rfl) ( ft_cons (f_s rfl rfl rfl rfl) ( ft_cons (f_b rfl (fun r => congrArg (fun v => some (Value.int v :: r)) h0)) ( ft_cons (f_s rfl rfl rfl (congrArg Value.int e1)) (ft_nil)))), fj_nil⟩ R_3_1
def F_3_2 : fa := [(301, 0, 0, 49), (300, 0, 0, 2405), (1, 2405, 249, 25), (300, 1, 0, 2413), (202, 2413, 1, 1), (204, 2413, 1, 9), (41, 2413, 0, 14), (12, 66, 14, 22), (13, 22, 58, 30), (15, 30, 22, 9), (15, 30, 2, 9), (14, 30, 10, 38), (15, 38, 22, 9), (15, 38, 2, 9), (14, 38, 10, 46), (15, 46, 22, 9), (15, 46, 2, 9), (14, 46, 10, 54), (15, 54, 22, 9), (15, 54, 2, 9), (14, 54, 10, 62), (15, 62, 22, 9), (15, 62, 2, 9), (14, 62, 10, 70), (15, 70, 22, 9), (15, 70, 2, 9), (14, 70, 10, 78), (15, 78, 22, 9), (15, 78, 2, 9), (14, 78, 10, 86), (15, 86, 22, 1), (15, 86, 2, 9), (14, 86, 10, 94), (15, 94, 22, 34359738361)]
set_option maxHeartbeats 0 in
theorem R_3_2 : fin_q (ev_rs eo0 (F_3_2, []) [9] Sa2) = true := by decide +kernel
theorem rd_3_2 (xs : Nat → Int32) (h0 : xs 0 &&& Int32.ofNat 31 = Int32.ofNat 3) (g1 : 1 ≤ (xs 1).toInt) : law_at 6 xs := by
  have b1 := i32_r (xs 1)
  have D1 : (((xs 1)).toInt64).toInt = 1 * (xs 1).toInt + 0 := by
    have q := af_0 (xs 1)
    omega
  have D2 : (((Int64.ofNat 8) * ((xs 1)).toInt64)).toInt = 8 * (xs 1).toInt + 0 := by
    have q := af_m (show ((Int64.ofNat 8)).toInt = 8 by decide) D1 (by omega) (by omega)
    omega
  have D3 : ((((Int64.ofNat 8) * ((xs 1)).toInt64) + (Int64.ofNat 7))).toInt = 8 * (xs 1).toInt + 7 := by
    have q := af_p D2 (show ((Int64.ofNat 7)).toInt = 7 by decide) (by omega) (by omega)
    omega
  have D4 : (((((Int64.ofNat 8) * ((xs 1)).toInt64) + (Int64.ofNat 7)) - (Int64.ofNat 1))).toInt = 8 * (xs 1).toInt + 6 := by
    have q := af_s D3 (show ((Int64.ofNat 1)).toInt = 1 by decide) (by omega) (by omega)
    omega
  have D5 : ((((((Int64.ofNat 8) * ((xs 1)).toInt64) + (Int64.ofNat 7)) - (Int64.ofNat 1)) - (Int64.ofNat 1))).toInt = 8 * (xs 1).toInt + 5 := by
    have q := af_s D4 (show ((Int64.ofNat 1)).toInt = 1 by decide) (by omega) (by omega)
    omega
  have D6 : (((((((Int64.ofNat 8) * ((xs 1)).toInt64) + (Int64.ofNat 7)) - (Int64.ofNat 1)) - (Int64.ofNat 1)) - (Int64.ofNat 1))).toInt = 8 * (xs 1).toInt + 4 := by
    have q := af_s D5 (show ((Int64.ofNat 1)).toInt = 1 by decide) (by omega) (by omega)
    omega
  have D7 : ((((((((Int64.ofNat 8) * ((xs 1)).toInt64) + (Int64.ofNat 7)) - (Int64.ofNat 1)) - (Int64.ofNat 1)) - (Int64.ofNat 1)) - (Int64.ofNat 1))).toInt = 8 * (xs 1).toInt + 3 := by
    have q := af_s D6 (show ((Int64.ofNat 1)).toInt = 1 by decide) (by omega) (by omega)
    omega
  have D8 : (((((((((Int64.ofNat 8) * ((xs 1)).toInt64) + (Int64.ofNat 7)) - (Int64.ofNat 1)) - (Int64.ofNat 1)) - (Int64.ofNat 1)) - (Int64.ofNat 1)) - (Int64.ofNat 1))).toInt = 8 * (xs 1).toInt + 2 := by
    have q := af_s D7 (show ((Int64.ofNat 1)).toInt = 1 by decide) (by omega) (by omega)
    omega
  have D9 : ((((((((((Int64.ofNat 8) * ((xs 1)).toInt64) + (Int64.ofNat 7)) - (Int64.ofNat 1)) - (Int64.ofNat 1)) - (Int64.ofNat 1)) - (Int64.ofNat 1)) - (Int64.ofNat 1)) - (Int64.ofNat 1))).toInt = 8 * (xs 1).toInt + 1 := by
    have q := af_s D8 (show ((Int64.ofNat 1)).toInt = 1 by decide) (by omega) (by omega)
    omega
  have D10 : (((((((((((Int64.ofNat 8) * ((xs 1)).toInt64) + (Int64.ofNat 7)) - (Int64.ofNat 1)) - (Int64.ofNat 1)) - (Int64.ofNat 1)) - (Int64.ofNat 1)) - (Int64.ofNat 1)) - (Int64.ofNat 1)) - (Int64.ofNat 1))).toInt = 8 * (xs 1).toInt + 0 := by
    have q := af_s D9 (show ((Int64.ofNat 1)).toInt = 1 by decide) (by omega) (by omega)
    omega
  have D11 : ((((((((((((Int64.ofNat 8) * ((xs 1)).toInt64) + (Int64.ofNat 7)) - (Int64.ofNat 1)) - (Int64.ofNat 1)) - (Int64.ofNat 1)) - (Int64.ofNat 1)) - (Int64.ofNat 1)) - (Int64.ofNat 1)) - (Int64.ofNat 1)) - (Int64.ofNat 1))).toInt = 8 * (xs 1).toInt + -1 := by
    have q := af_s D10 (show ((Int64.ofNat 1)).toInt = 1 by decide) (by omega) (by omega)
    omega
  exact law_rd (L := 6) (xs := xs) (bt := []) (wt := []) (dt := [((xs 1)).toInt64, ((Int64.ofNat 8) * ((xs 1)).toInt64), (((Int64.ofNat 8) * ((xs 1)).toInt64) + (Int64.ofNat 7)), ((((Int64.ofNat 8) * ((xs 1)).toInt64) + (Int64.ofNat 7)) - (Int64.ofNat 1)), (((((Int64.ofNat 8) * ((xs 1)).toInt64) + (Int64.ofNat 7)) - (Int64.ofNat 1)) - (Int64.ofNat 1)), ((((((Int64.ofNat 8) * ((xs 1)).toInt64) + (Int64.ofNat 7)) - (Int64.ofNat 1)) - (Int64.ofNat 1)) - (Int64.ofNat 1)), (((((((Int64.ofNat 8) * ((xs 1)).toInt64) + (Int64.ofNat 7)) - (Int64.ofNat 1)) - (Int64.ofNat 1)) - (Int64.ofNat 1)) - (Int64.ofNat 1)), ((((((((Int64.ofNat 8) * ((xs 1)).toInt64) + (Int64.ofNat 7)) - (Int64.ofNat 1)) - (Int64.ofNat 1)) - (Int64.ofNat 1)) - (Int64.ofNat 1)) - (Int64.ofNat 1)), (((((((((Int64.ofNat 8) * ((xs 1)).toInt64) + (Int64.ofNat 7)) - (Int64.ofNat 1)) - (Int64.ofNat 1)) - (Int64.ofNat 1)) - (Int64.ofNat 1)) - (Int64.ofNat 1)) - (Int64.ofNat 1)), ((((((((((Int64.ofNat 8) * ((xs 1)).toInt64) + (Int64.ofNat 7)) - (Int64.ofNat 1)) - (Int64.ofNat 1)) - (Int64.ofNat 1)) - (Int64.ofNat 1)) - (Int64.ofNat 1)) - (Int64.ofNat 1)) - (Int64.ofNat 1)), (((((((((((Int64.ofNat 8) * ((xs 1)).toInt64) + (Int64.ofNat 7)) - (Int64.ofNat 1)) - (Int64.ofNat 1)) - (Int64.ofNat 1)) - (Int64.ofNat 1)) - (Int64.ofNat 1)) - (Int64.ofNat 1)) - (Int64.ofNat 1)) - (Int64.ofNat 1))]) (f := (F_3_2, [])) (ob_ok0 _) ⟨ft_cons (f_l rfl rfl) ( ft_cons (f_s rfl rfl rfl rfl) ( ft_cons (f_b rfl (fun r => congrArg (fun v => some (Value.int v :: r)) h0)) ( ft_cons (f_s rfl rfl rfl rfl) ( ft_cons (f_c (a := (xs 1)) (b := (Int32.ofNat 0)) rfl rfl rfl rfl (c_lt_f (by have a1 : (Int32.ofNat 0).toInt = 0 := (by decide); omega))) ( ft_cons (f_c (a := (xs 1)) (b := (Int32.ofNat 0)) rfl rfl rfl rfl (c_gt_t (by have a1 : (Int32.ofNat 0).toInt = 0 := (by decide); omega))) ( ft_cons (f_u rfl rfl (fun r => rfl)) ( ft_cons (f_b rfl (fun r => rfl)) ( ft_cons (f_b rfl (fun r => rfl)) ( ft_cons (f_b rfl (fun r => congrArg (fun v => some (Value.int v :: r)) (l_gt (x := (((Int64.ofNat 8) * ((xs 1)).toInt64) + (Int64.ofNat 7))) (y := ((Int64.ofNat 8) * ((xs 1)).toInt64)) (by omega)))) ( ft_cons (f_b rfl (fun r => congrArg (fun v => some (Value.int v :: r)) (l_gt (x := (((Int64.ofNat 8) * ((xs 1)).toInt64) + (Int64.ofNat 7))) (y := (Int64.ofNat 0)) (by have a1 : (Int64.ofNat 0).toInt = 0 := (by decide); omega)))) ( ft_cons (f_b rfl (fun r => rfl)) ( ft_cons (f_b rfl (fun r => congrArg (fun v => some (Value.int v :: r)) (l_gt (x := ((((Int64.ofNat 8) * ((xs 1)).toInt64) + (Int64.ofNat 7)) - (Int64.ofNat 1))) (y := ((Int64.ofNat 8) * ((xs 1)).toInt64)) (by omega)))) ( ft_cons (f_b rfl (fun r => congrArg (fun v => some (Value.int v :: r)) (l_gt (x := ((((Int64.ofNat 8) * ((xs 1)).toInt64) + (Int64.ofNat 7)) - (Int64.ofNat 1))) (y := (Int64.ofNat 0)) (by have a1 : (Int64.ofNat 0).toInt = 0 := (by decide); omega)))) ( ft_cons (f_b rfl (fun r => rfl)) ( ft_cons (f_b rfl (fun r => congrArg (fun v => some (Value.int v :: r)) (l_gt (x := (((((Int64.ofNat 8) * ((xs 1)).toInt64) + (Int64.ofNat 7)) - (Int64.ofNat 1)) - (Int64.ofNat 1))) (y := ((Int64.ofNat 8) * ((xs 1)).toInt64)) (by omega)))) ( ft_cons (f_b rfl (fun r => congrArg (fun v => some (Value.int v :: r)) (l_gt (x := (((((Int64.ofNat 8) * ((xs 1)).toInt64) + (Int64.ofNat 7)) - (Int64.ofNat 1)) - (Int64.ofNat 1))) (y := (Int64.ofNat 0)) (by have a1 : (Int64.ofNat 0).toInt = 0 := (by decide); omega)))) ( ft_cons (f_b rfl (fun r => rfl)) ( ft_cons (f_b rfl (fun r => congrArg (fun v => some (Value.int v :: r)) (l_gt (x := ((((((Int64.ofNat 8) * ((xs 1)).toInt64) + (Int64.ofNat 7)) - (Int64.ofNat 1)) - (Int64.ofNat 1)) - (Int64.ofNat 1))) (y := ((Int64.ofNat 8) * ((xs 1)).toInt64)) (by omega)))) ( ft_cons (f_b rfl (fun r => congrArg (fun v => some (Value.int v :: r)) (l_gt (x := ((((((Int64.ofNat 8) * ((xs 1)).toInt64) + (Int64.ofNat 7)) - (Int64.ofNat 1)) - (Int64.ofNat 1)) - (Int64.ofNat 1))) (y := (Int64.ofNat 0)) (by have a1 : (Int64.ofNat 0).toInt = 0 := (by decide); omega)))) ( ft_cons (f_b rfl (fun r => rfl)) ( ft_cons (f_b rfl (fun r => congrArg (fun v => some (Value.int v :: r)) (l_gt (x := (((((((Int64.ofNat 8) * ((xs 1)).toInt64) + (Int64.ofNat 7)) - (Int64.ofNat 1)) - (Int64.ofNat 1)) - (Int64.ofNat 1)) - (Int64.ofNat 1))) (y := ((Int64.ofNat 8) * ((xs 1)).toInt64)) (by omega)))) ( ft_cons (f_b rfl (fun r => congrArg (fun v => some (Value.int v :: r)) (l_gt (x := (((((((Int64.ofNat 8) * ((xs 1)).toInt64) + (Int64.ofNat 7)) - (Int64.ofNat 1)) - (Int64.ofNat 1)) - (Int64.ofNat 1)) - (Int64.ofNat 1))) (y := (Int64.ofNat 0)) (by have a1 : (Int64.ofNat 0).toInt = 0 := (by decide); omega)))) ( ft_cons (f_b rfl (fun r => rfl)) ( ft_cons (f_b rfl (fun r => congrArg (fun v => some (Value.int v :: r)) (l_gt (x := ((((((((Int64.ofNat 8) * ((xs 1)).toInt64) + (Int64.ofNat 7)) - (Int64.ofNat 1)) - (Int64.ofNat 1)) - (Int64.ofNat 1)) - (Int64.ofNat 1)) - (Int64.ofNat 1))) (y := ((Int64.ofNat 8) * ((xs 1)).toInt64)) (by omega)))) ( ft_cons (f_b rfl (fun r => congrArg (fun v => some (Value.int v :: r)) (l_gt (x := ((((((((Int64.ofNat 8) * ((xs 1)).toInt64) + (Int64.ofNat 7)) - (Int64.ofNat 1)) - (Int64.ofNat 1)) - (Int64.ofNat 1)) - (Int64.ofNat 1)) - (Int64.ofNat 1))) (y := (Int64.ofNat 0)) (by have a1 : (Int64.ofNat 0).toInt = 0 := (by decide); omega)))) ( ft_cons (f_b rfl (fun r => rfl)) ( ft_cons (f_b rfl (fun r => congrArg (fun v => some (Value.int v :: r)) (l_gt (x := (((((((((Int64.ofNat 8) * ((xs 1)).toInt64) + (Int64.ofNat 7)) - (Int64.ofNat 1)) - (Int64.ofNat 1)) - (Int64.ofNat 1)) - (Int64.ofNat 1)) - (Int64.ofNat 1)) - (Int64.ofNat 1))) (y := ((Int64.ofNat 8) * ((xs 1)).toInt64)) (by omega)))) ( ft_cons (f_b rfl (fun r => congrArg (fun v => some (Value.int v :: r)) (l_gt (x := (((((((((Int64.ofNat 8) * ((xs 1)).toInt64) + (Int64.ofNat 7)) - (Int64.ofNat 1)) - (Int64.ofNat 1)) - (Int64.ofNat 1)) - (Int64.ofNat 1)) - (Int64.ofNat 1)) - (Int64.ofNat 1))) (y := (Int64.ofNat 0)) (by have a1 : (Int64.ofNat 0).toInt = 0 := (by decide); omega)))) ( ft_cons (f_b rfl (fun r => rfl)) ( ft_cons (f_b rfl (fun r => congrArg (fun v => some (Value.int v :: r)) (l_eq (x := ((((((((((Int64.ofNat 8) * ((xs 1)).toInt64) + (Int64.ofNat 7)) - (Int64.ofNat 1)) - (Int64.ofNat 1)) - (Int64.ofNat 1)) - (Int64.ofNat 1)) - (Int64.ofNat 1)) - (Int64.ofNat 1)) - (Int64.ofNat 1))) (y := ((Int64.ofNat 8) * ((xs 1)).toInt64)) (by omega)))) ( ft_cons (f_b rfl (fun r => congrArg (fun v => some (Value.int v :: r)) (l_gt (x := ((((((((((Int64.ofNat 8) * ((xs 1)).toInt64) + (Int64.ofNat 7)) - (Int64.ofNat 1)) - (Int64.ofNat 1)) - (Int64.ofNat 1)) - (Int64.ofNat 1)) - (Int64.ofNat 1)) - (Int64.ofNat 1)) - (Int64.ofNat 1))) (y := (Int64.ofNat 0)) (by have a1 : (Int64.ofNat 0).toInt = 0 := (by decide); omega)))) ( ft_cons (f_b rfl (fun r => rfl)) ( ft_cons (f_b rfl (fun r => congrArg (fun v => some (Value.int v :: r)) (l_lt (x := (((((((((((Int64.ofNat 8) * ((xs 1)).toInt64) + (Int64.ofNat 7)) - (Int64.ofNat 1)) - (Int64.ofNat 1)) - (Int64.ofNat 1)) - (Int64.ofNat 1)) - (Int64.ofNat 1)) - (Int64.ofNat 1)) - (Int64.ofNat 1)) - (Int64.ofNat 1))) (y := ((Int64.ofNat 8) * ((xs 1)).toInt64)) (by omega)))) (ft_nil)))))))))))))))))))))))))))))))))), fj_nil⟩ R_3_2
theorem cs_3 (xs : Nat → Int32) (h0 : xs 0 &&& Int32.ofNat 31 = Int32.ofNat 3) : law_at 6 xs := by
  have b1 := i32_r (xs 1)
  have b2 := i32_r (xs 2)
  have b3 := i32_r (xs 3)
  have b4 := i32_r (xs 4)
  have b5 := i32_r (xs 5)
  by_cases q0 : (xs 1).toInt < 0
  · skip
    exact rd_3_0 xs h0 (by omega)
  by_cases q1 : (xs 1).toInt < 1
  · skip
    exact rd_3_1 xs h0 (by omega)
  exact rd_3_2 xs h0 (by omega)
def F_4_0 : fa := [(301, 0, 0, 49), (300, 0, 0, 2405), (1, 2405, 249, 33), (300, 1, 0, 2413), (300, 2, 0, 2421), (300, 3, 0, 2429), (202, 2413, 1, 9), (201, 2421, 25, 9)]
set_option maxHeartbeats 0 in
theorem R_4_0 : fin_q (ev_rs eo0 (F_4_0, []) [8] Sa2) = true := by decide +kernel
theorem rd_4_0 (xs : Nat → Int32) (h0 : xs 0 &&& Int32.ofNat 31 = Int32.ofNat 4) (g1 : (xs 1).toInt ≤ -1) (g2 : (xs 2).toInt ≤ 2) : law_at 6 xs := by
  have b1 := i32_r (xs 1)
  have b2 := i32_r (xs 2)
  exact law_rd (L := 6) (xs := xs) (bt := []) (wt := []) (dt := []) (f := (F_4_0, [])) (ob_ok0 _) ⟨ft_cons (f_l rfl rfl) ( ft_cons (f_s rfl rfl rfl rfl) ( ft_cons (f_b rfl (fun r => congrArg (fun v => some (Value.int v :: r)) h0)) ( ft_cons (f_s rfl rfl rfl rfl) ( ft_cons (f_s rfl rfl rfl rfl) ( ft_cons (f_s rfl rfl rfl rfl) ( ft_cons (f_c (a := (xs 1)) (b := (Int32.ofNat 0)) rfl rfl rfl rfl (c_lt_t (by have a1 : (Int32.ofNat 0).toInt = 0 := (by decide); omega))) ( ft_cons (f_c (a := (xs 2)) (b := (Int32.ofNat 3)) rfl rfl rfl rfl (c_ne_t (by have a1 : (Int32.ofNat 3).toInt = 3 := (by decide); omega))) (ft_nil)))))))), fj_nil⟩ R_4_0
def F_4_1 : fa := [(301, 0, 0, 49), (300, 0, 0, 2405), (1, 2405, 249, 33), (300, 1, 0, 2413), (300, 2, 0, 25), (300, 3, 0, 2429), (202, 2413, 1, 9)]
set_option maxHeartbeats 0 in
theorem R_4_1 : fin_q (ev_rs eo0 (F_4_1, []) [8] Sa2) = true := by decide +kernel
theorem rd_4_1 (xs : Nat → Int32) (h0 : xs 0 &&& Int32.ofNat 31 = Int32.ofNat 4) (g1 : (xs 1).toInt ≤ -1) (g2 : (xs 2).toInt = 3) : law_at 6 xs := by
  have b1 := i32_r (xs 1)
  have e2 : xs 2 = (Int32.ofNat 3) := i32_eq (by rw [g2]; decide)
  have b2 := i32_r (xs 2)
  exact law_rd (L := 6) (xs := xs) (bt := []) (wt := []) (dt := []) (f := (F_4_1, [])) (ob_ok0 _) ⟨ft_cons (f_l rfl rfl) ( ft_cons (f_s rfl rfl rfl rfl) ( ft_cons (f_b rfl (fun r => congrArg (fun v => some (Value.int v :: r)) h0)) ( ft_cons (f_s rfl rfl rfl rfl) ( ft_cons (f_s rfl rfl rfl (congrArg Value.int e2)) ( ft_cons (f_s rfl rfl rfl rfl) ( ft_cons (f_c (a := (xs 1)) (b := (Int32.ofNat 0)) rfl rfl rfl rfl (c_lt_t (by have a1 : (Int32.ofNat 0).toInt = 0 := (by decide); omega))) (ft_nil))))))), fj_nil⟩ R_4_1
def F_4_2 : fa := [(301, 0, 0, 49), (300, 0, 0, 2405), (1, 2405, 249, 33), (300, 1, 0, 2413), (300, 2, 0, 2421), (300, 3, 0, 2429), (202, 2413, 1, 9), (201, 2421, 25, 9)]
set_option maxHeartbeats 0 in
theorem R_4_2 : fin_q (ev_rs eo0 (F_4_2, []) [8] Sa2) = true := by decide +kernel
theorem rd_4_2 (xs : Nat → Int32) (h0 : xs 0 &&& Int32.ofNat 31 = Int32.ofNat 4) (g1 : (xs 1).toInt ≤ -1) (g2 : 4 ≤ (xs 2).toInt) : law_at 6 xs := by
  have b1 := i32_r (xs 1)
  have b2 := i32_r (xs 2)
  exact law_rd (L := 6) (xs := xs) (bt := []) (wt := []) (dt := []) (f := (F_4_2, [])) (ob_ok0 _) ⟨ft_cons (f_l rfl rfl) ( ft_cons (f_s rfl rfl rfl rfl) ( ft_cons (f_b rfl (fun r => congrArg (fun v => some (Value.int v :: r)) h0)) ( ft_cons (f_s rfl rfl rfl rfl) ( ft_cons (f_s rfl rfl rfl rfl) ( ft_cons (f_s rfl rfl rfl rfl) ( ft_cons (f_c (a := (xs 1)) (b := (Int32.ofNat 0)) rfl rfl rfl rfl (c_lt_t (by have a1 : (Int32.ofNat 0).toInt = 0 := (by decide); omega))) ( ft_cons (f_c (a := (xs 2)) (b := (Int32.ofNat 3)) rfl rfl rfl rfl (c_ne_t (by have a1 : (Int32.ofNat 3).toInt = 3 := (by decide); omega))) (ft_nil)))))))), fj_nil⟩ R_4_2
def F_4_3 : fa := [(301, 0, 0, 49), (300, 0, 0, 2405), (1, 2405, 249, 33), (300, 1, 0, 1), (300, 2, 0, 2421), (300, 3, 0, 2429), (201, 2421, 25, 9), (202, 2421, 9, 9)]
set_option maxHeartbeats 0 in
theorem R_4_3 : fin_q (ev_rs eo0 (F_4_3, []) [8] Sa2) = true := by decide +kernel
theorem rd_4_3 (xs : Nat → Int32) (h0 : xs 0 &&& Int32.ofNat 31 = Int32.ofNat 4) (g1 : (xs 1).toInt = 0) (g2 : (xs 2).toInt ≤ 0) : law_at 6 xs := by
  have e1 : xs 1 = (Int32.ofNat 0) := i32_eq (by rw [g1]; decide)
  have b1 := i32_r (xs 1)
  have b2 := i32_r (xs 2)
  exact law_rd (L := 6) (xs := xs) (bt := []) (wt := []) (dt := []) (f := (F_4_3, [])) (ob_ok0 _) ⟨ft_cons (f_l rfl rfl) ( ft_cons (f_s rfl rfl rfl rfl) ( ft_cons (f_b rfl (fun r => congrArg (fun v => some (Value.int v :: r)) h0)) ( ft_cons (f_s rfl rfl rfl (congrArg Value.int e1)) ( ft_cons (f_s rfl rfl rfl rfl) ( ft_cons (f_s rfl rfl rfl rfl) ( ft_cons (f_c (a := (xs 2)) (b := (Int32.ofNat 3)) rfl rfl rfl rfl (c_ne_t (by have a1 : (Int32.ofNat 3).toInt = 3 := (by decide); omega))) ( ft_cons (f_c (a := (xs 2)) (b := (Int32.ofNat 1)) rfl rfl rfl rfl (c_lt_t (by have a1 : (Int32.ofNat 1).toInt = 1 := (by decide); omega))) (ft_nil)))))))), fj_nil⟩ R_4_3
def F_4_4 : fa := [(301, 0, 0, 49), (300, 0, 0, 2405), (1, 2405, 249, 33), (300, 1, 0, 1), (300, 2, 0, 2421), (300, 3, 0, 2429), (201, 2421, 25, 9), (202, 2421, 9, 1), (204, 2421, 57, 1)]
set_option maxHeartbeats 0 in
theorem R_4_4 : fin_q (ev_rs eo0 (F_4_4, []) [8] Sa2) = true := by decide +kernel
theorem rd_4_4 (xs : Nat → Int32) (h0 : xs 0 &&& Int32.ofNat 31 = Int32.ofNat 4) (g1 : (xs 1).toInt = 0) (g2 : 1 ≤ (xs 2).toInt ∧ (xs 2).toInt ≤ 2) : law_at 6 xs := by
  have e1 : xs 1 = (Int32.ofNat 0) := i32_eq (by rw [g1]; decide)
  have b1 := i32_r (xs 1)
  have b2 := i32_r (xs 2)
  exact law_rd (L := 6) (xs := xs) (bt := []) (wt := []) (dt := []) (f := (F_4_4, [])) (ob_ok0 _) ⟨ft_cons (f_l rfl rfl) ( ft_cons (f_s rfl rfl rfl rfl) ( ft_cons (f_b rfl (fun r => congrArg (fun v => some (Value.int v :: r)) h0)) ( ft_cons (f_s rfl rfl rfl (congrArg Value.int e1)) ( ft_cons (f_s rfl rfl rfl rfl) ( ft_cons (f_s rfl rfl rfl rfl) ( ft_cons (f_c (a := (xs 2)) (b := (Int32.ofNat 3)) rfl rfl rfl rfl (c_ne_t (by have a1 : (Int32.ofNat 3).toInt = 3 := (by decide); omega))) ( ft_cons (f_c (a := (xs 2)) (b := (Int32.ofNat 1)) rfl rfl rfl rfl (c_lt_f (by have a1 : (Int32.ofNat 1).toInt = 1 := (by decide); omega))) ( ft_cons (f_c (a := (xs 2)) (b := (Int32.ofNat 7)) rfl rfl rfl rfl (c_gt_f (by have a1 : (Int32.ofNat 7).toInt = 7 := (by decide); omega))) (ft_nil))))))))), fj_nil⟩ R_4_4
def F_4_5 : fa := [(301, 0, 0, 49), (300, 0, 0, 2405), (1, 2405, 249, 33), (300, 1, 0, 1), (300, 2, 0, 25), (300, 3, 0, 2429)]
set_option maxHeartbeats 0 in
theorem R_4_5 : fin_q (ev_rs eo0 (F_4_5, []) [8] Sa2) = true := by decide +kernel
theorem rd_4_5 (xs : Nat → Int32) (h0 : xs 0 &&& Int32.ofNat 31 = Int32.ofNat 4) (g1 : (xs 1).toInt = 0) (g2 : (xs 2).toInt = 3) : law_at 6 xs := by
  have e1 : xs 1 = (Int32.ofNat 0) := i32_eq (by rw [g1]; decide)
  have b1 := i32_r (xs 1)
  have e2 : xs 2 = (Int32.ofNat 3) := i32_eq (by rw [g2]; decide)
  have b2 := i32_r (xs 2)
  exact law_rd (L := 6) (xs := xs) (bt := []) (wt := []) (dt := []) (f := (F_4_5, [])) (ob_ok0 _) ⟨ft_cons (f_l rfl rfl) ( ft_cons (f_s rfl rfl rfl rfl) ( ft_cons (f_b rfl (fun r => congrArg (fun v => some (Value.int v :: r)) h0)) ( ft_cons (f_s rfl rfl rfl (congrArg Value.int e1)) ( ft_cons (f_s rfl rfl rfl (congrArg Value.int e2)) ( ft_cons (f_s rfl rfl rfl rfl) (ft_nil)))))), fj_nil⟩ R_4_5
def F_4_6 : fa := [(301, 0, 0, 49), (300, 0, 0, 2405), (1, 2405, 249, 33), (300, 1, 0, 1), (300, 2, 0, 2421), (300, 3, 0, 2429), (201, 2421, 25, 9), (202, 2421, 9, 1), (204, 2421, 57, 1)]
set_option maxHeartbeats 0 in
theorem R_4_6 : fin_q (ev_rs eo0 (F_4_6, []) [8] Sa2) = true := by decide +kernel
theorem rd_4_6 (xs : Nat → Int32) (h0 : xs 0 &&& Int32.ofNat 31 = Int32.ofNat 4) (g1 : (xs 1).toInt = 0) (g2 : 4 ≤ (xs 2).toInt ∧ (xs 2).toInt ≤ 7) : law_at 6 xs := by
  have e1 : xs 1 = (Int32.ofNat 0) := i32_eq (by rw [g1]; decide)
  have b1 := i32_r (xs 1)
  have b2 := i32_r (xs 2)
  exact law_rd (L := 6) (xs := xs) (bt := []) (wt := []) (dt := []) (f := (F_4_6, [])) (ob_ok0 _) ⟨ft_cons (f_l rfl rfl) ( ft_cons (f_s rfl rfl rfl rfl) ( ft_cons (f_b rfl (fun r => congrArg (fun v => some (Value.int v :: r)) h0)) ( ft_cons (f_s rfl rfl rfl (congrArg Value.int e1)) ( ft_cons (f_s rfl rfl rfl rfl) ( ft_cons (f_s rfl rfl rfl rfl) ( ft_cons (f_c (a := (xs 2)) (b := (Int32.ofNat 3)) rfl rfl rfl rfl (c_ne_t (by have a1 : (Int32.ofNat 3).toInt = 3 := (by decide); omega))) ( ft_cons (f_c (a := (xs 2)) (b := (Int32.ofNat 1)) rfl rfl rfl rfl (c_lt_f (by have a1 : (Int32.ofNat 1).toInt = 1 := (by decide); omega))) ( ft_cons (f_c (a := (xs 2)) (b := (Int32.ofNat 7)) rfl rfl rfl rfl (c_gt_f (by have a1 : (Int32.ofNat 7).toInt = 7 := (by decide); omega))) (ft_nil))))))))), fj_nil⟩ R_4_6
def F_4_7 : fa := [(301, 0, 0, 49), (300, 0, 0, 2405), (1, 2405, 249, 33), (300, 1, 0, 1), (300, 2, 0, 2421), (300, 3, 0, 2429), (201, 2421, 25, 9), (202, 2421, 9, 1), (204, 2421, 57, 9)]
set_option maxHeartbeats 0 in
theorem R_4_7 : fin_q (ev_rs eo0 (F_4_7, []) [8] Sa2) = true := by decide +kernel
theorem rd_4_7 (xs : Nat → Int32) (h0 : xs 0 &&& Int32.ofNat 31 = Int32.ofNat 4) (g1 : (xs 1).toInt = 0) (g2 : 8 ≤ (xs 2).toInt) : law_at 6 xs := by
  have e1 : xs 1 = (Int32.ofNat 0) := i32_eq (by rw [g1]; decide)
  have b1 := i32_r (xs 1)
  have b2 := i32_r (xs 2)
  exact law_rd (L := 6) (xs := xs) (bt := []) (wt := []) (dt := []) (f := (F_4_7, [])) (ob_ok0 _) ⟨ft_cons (f_l rfl rfl) ( ft_cons (f_s rfl rfl rfl rfl) ( ft_cons (f_b rfl (fun r => congrArg (fun v => some (Value.int v :: r)) h0)) ( ft_cons (f_s rfl rfl rfl (congrArg Value.int e1)) ( ft_cons (f_s rfl rfl rfl rfl) ( ft_cons (f_s rfl rfl rfl rfl) ( ft_cons (f_c (a := (xs 2)) (b := (Int32.ofNat 3)) rfl rfl rfl rfl (c_ne_t (by have a1 : (Int32.ofNat 3).toInt = 3 := (by decide); omega))) ( ft_cons (f_c (a := (xs 2)) (b := (Int32.ofNat 1)) rfl rfl rfl rfl (c_lt_f (by have a1 : (Int32.ofNat 1).toInt = 1 := (by decide); omega))) ( ft_cons (f_c (a := (xs 2)) (b := (Int32.ofNat 7)) rfl rfl rfl rfl (c_gt_t (by have a1 : (Int32.ofNat 7).toInt = 7 := (by decide); omega))) (ft_nil))))))))), fj_nil⟩ R_4_7
def F_4_8 : fa := [(301, 0, 0, 49), (300, 0, 0, 2405), (1, 2405, 249, 33), (300, 1, 0, 2413), (300, 2, 0, 2421), (300, 3, 0, 2429), (202, 2413, 1, 1), (202, 2413, 9, 1), (201, 2421, 25, 9), (203, 2413, 9, 9)]
set_option maxHeartbeats 0 in
theorem R_4_8 : fin_q (ev_rs eo0 (F_4_8, []) [8] Sa2) = true := by decide +kernel
theorem rd_4_8 (xs : Nat → Int32) (h0 : xs 0 &&& Int32.ofNat 31 = Int32.ofNat 4) (g1 : 1 ≤ (xs 1).toInt) (g2 : (xs 2).toInt ≤ 2) : law_at 6 xs := by
  have b1 := i32_r (xs 1)
  have b2 := i32_r (xs 2)
  exact law_rd (L := 6) (xs := xs) (bt := []) (wt := []) (dt := []) (f := (F_4_8, [])) (ob_ok0 _) ⟨ft_cons (f_l rfl rfl) ( ft_cons (f_s rfl rfl rfl rfl) ( ft_cons (f_b rfl (fun r => congrArg (fun v => some (Value.int v :: r)) h0)) ( ft_cons (f_s rfl rfl rfl rfl) ( ft_cons (f_s rfl rfl rfl rfl) ( ft_cons (f_s rfl rfl rfl rfl) ( ft_cons (f_c (a := (xs 1)) (b := (Int32.ofNat 0)) rfl rfl rfl rfl (c_lt_f (by have a1 : (Int32.ofNat 0).toInt = 0 := (by decide); omega))) ( ft_cons (f_c (a := (xs 1)) (b := (Int32.ofNat 1)) rfl rfl rfl rfl (c_lt_f (by have a1 : (Int32.ofNat 1).toInt = 1 := (by decide); omega))) ( ft_cons (f_c (a := (xs 2)) (b := (Int32.ofNat 3)) rfl rfl rfl rfl (c_ne_t (by have a1 : (Int32.ofNat 3).toInt = 3 := (by decide); omega))) ( ft_cons (f_c (a := (xs 1)) (b := (Int32.ofNat 1)) rfl rfl rfl rfl (c_ge_t (by have a1 : (Int32.ofNat 1).toInt = 1 := (by decide); omega))) (ft_nil)))))))))), fj_nil⟩ R_4_8
def F_4_9 : fa := [(301, 0, 0, 49), (300, 0, 0, 2405), (1, 2405, 249, 33), (300, 1, 0, 2413), (300, 2, 0, 25), (300, 3, 0, 2429), (202, 2413, 1, 1), (202, 2413, 9, 1), (203, 2413, 9, 9)]
set_option maxHeartbeats 0 in
theorem R_4_9 : fin_q (ev_rs eo0 (F_4_9, []) [8] Sa2) = true := by decide +kernel
theorem rd_4_9 (xs : Nat → Int32) (h0 : xs 0 &&& Int32.ofNat 31 = Int32.ofNat 4) (g1 : 1 ≤ (xs 1).toInt) (g2 : (xs 2).toInt = 3) : law_at 6 xs := by
  have b1 := i32_r (xs 1)
  have e2 : xs 2 = (Int32.ofNat 3) := i32_eq (by rw [g2]; decide)
  have b2 := i32_r (xs 2)
  exact law_rd (L := 6) (xs := xs) (bt := []) (wt := []) (dt := []) (f := (F_4_9, [])) (ob_ok0 _) ⟨ft_cons (f_l rfl rfl) ( ft_cons (f_s rfl rfl rfl rfl) ( ft_cons (f_b rfl (fun r => congrArg (fun v => some (Value.int v :: r)) h0)) ( ft_cons (f_s rfl rfl rfl rfl) ( ft_cons (f_s rfl rfl rfl (congrArg Value.int e2)) ( ft_cons (f_s rfl rfl rfl rfl) ( ft_cons (f_c (a := (xs 1)) (b := (Int32.ofNat 0)) rfl rfl rfl rfl (c_lt_f (by have a1 : (Int32.ofNat 0).toInt = 0 := (by decide); omega))) ( ft_cons (f_c (a := (xs 1)) (b := (Int32.ofNat 1)) rfl rfl rfl rfl (c_lt_f (by have a1 : (Int32.ofNat 1).toInt = 1 := (by decide); omega))) ( ft_cons (f_c (a := (xs 1)) (b := (Int32.ofNat 1)) rfl rfl rfl rfl (c_ge_t (by have a1 : (Int32.ofNat 1).toInt = 1 := (by decide); omega))) (ft_nil))))))))), fj_nil⟩ R_4_9
def F_4_10 : fa := [(301, 0, 0, 49), (300, 0, 0, 2405), (1, 2405, 249, 33), (300, 1, 0, 2413), (300, 2, 0, 2421), (300, 3, 0, 2429), (202, 2413, 1, 1), (202, 2413, 9, 1), (201, 2421, 25, 9), (203, 2413, 9, 9)]
set_option maxHeartbeats 0 in
theorem R_4_10 : fin_q (ev_rs eo0 (F_4_10, []) [8] Sa2) = true := by decide +kernel
theorem rd_4_10 (xs : Nat → Int32) (h0 : xs 0 &&& Int32.ofNat 31 = Int32.ofNat 4) (g1 : 1 ≤ (xs 1).toInt) (g2 : 4 ≤ (xs 2).toInt) : law_at 6 xs := by
  have b1 := i32_r (xs 1)
  have b2 := i32_r (xs 2)
  exact law_rd (L := 6) (xs := xs) (bt := []) (wt := []) (dt := []) (f := (F_4_10, [])) (ob_ok0 _) ⟨ft_cons (f_l rfl rfl) ( ft_cons (f_s rfl rfl rfl rfl) ( ft_cons (f_b rfl (fun r => congrArg (fun v => some (Value.int v :: r)) h0)) ( ft_cons (f_s rfl rfl rfl rfl) ( ft_cons (f_s rfl rfl rfl rfl) ( ft_cons (f_s rfl rfl rfl rfl) ( ft_cons (f_c (a := (xs 1)) (b := (Int32.ofNat 0)) rfl rfl rfl rfl (c_lt_f (by have a1 : (Int32.ofNat 0).toInt = 0 := (by decide); omega))) ( ft_cons (f_c (a := (xs 1)) (b := (Int32.ofNat 1)) rfl rfl rfl rfl (c_lt_f (by have a1 : (Int32.ofNat 1).toInt = 1 := (by decide); omega))) ( ft_cons (f_c (a := (xs 2)) (b := (Int32.ofNat 3)) rfl rfl rfl rfl (c_ne_t (by have a1 : (Int32.ofNat 3).toInt = 3 := (by decide); omega))) ( ft_cons (f_c (a := (xs 1)) (b := (Int32.ofNat 1)) rfl rfl rfl rfl (c_ge_t (by have a1 : (Int32.ofNat 1).toInt = 1 := (by decide); omega))) (ft_nil)))))))))), fj_nil⟩ R_4_10
theorem cs_4 (xs : Nat → Int32) (h0 : xs 0 &&& Int32.ofNat 31 = Int32.ofNat 4) : law_at 6 xs := by
  have b1 := i32_r (xs 1)
  have b2 := i32_r (xs 2)
  have b3 := i32_r (xs 3)
  have b4 := i32_r (xs 4)
  have b5 := i32_r (xs 5)
  by_cases q2 : (xs 1).toInt < 0
  · skip
    by_cases q0 : (xs 2).toInt < 3
    · skip
      exact rd_4_0 xs h0 (by omega) (by omega)
    by_cases q1 : (xs 2).toInt < 4
    · skip
      exact rd_4_1 xs h0 (by omega) (by omega)
    exact rd_4_2 xs h0 (by omega) (by omega)
  by_cases q7 : (xs 1).toInt < 1
  · skip
    by_cases q4 : (xs 2).toInt < 3
    · skip
      by_cases q3 : (xs 2).toInt < 1
      · skip
        exact rd_4_3 xs h0 (by omega) (by omega)
      exact rd_4_4 xs h0 (by omega) (by omega)
    by_cases q5 : (xs 2).toInt < 4
    · skip
      exact rd_4_5 xs h0 (by omega) (by omega)
    by_cases q6 : (xs 2).toInt < 8
    · skip
      exact rd_4_6 xs h0 (by omega) (by omega)
    exact rd_4_7 xs h0 (by omega) (by omega)
  by_cases q8 : (xs 2).toInt < 3
  · skip
    exact rd_4_8 xs h0 (by omega) (by omega)
  by_cases q9 : (xs 2).toInt < 4
  · skip
    exact rd_4_9 xs h0 (by omega) (by omega)
  exact rd_4_10 xs h0 (by omega) (by omega)
def F_5_0 : fa := [(301, 0, 0, 49), (300, 0, 0, 2405), (1, 2405, 249, 41), (300, 1, 0, 2413), (300, 2, 0, 2421), (202, 2413, 1, 9), (202, 2421, 1, 9)]
set_option maxHeartbeats 0 in
theorem R_5_0 : fin_q (ev_rs eo0 (F_5_0, []) [7] Sa2) = true := by decide +kernel
theorem rd_5_0 (xs : Nat → Int32) (h0 : xs 0 &&& Int32.ofNat 31 = Int32.ofNat 5) (g1 : (xs 1).toInt ≤ -1) (g2 : (xs 2).toInt ≤ -1) : law_at 6 xs := by
  have b1 := i32_r (xs 1)
  have b2 := i32_r (xs 2)
  exact law_rd (L := 6) (xs := xs) (bt := []) (wt := []) (dt := []) (f := (F_5_0, [])) (ob_ok0 _) ⟨ft_cons (f_l rfl rfl) ( ft_cons (f_s rfl rfl rfl rfl) ( ft_cons (f_b rfl (fun r => congrArg (fun v => some (Value.int v :: r)) h0)) ( ft_cons (f_s rfl rfl rfl rfl) ( ft_cons (f_s rfl rfl rfl rfl) ( ft_cons (f_c (a := (xs 1)) (b := (Int32.ofNat 0)) rfl rfl rfl rfl (c_lt_t (by have a1 : (Int32.ofNat 0).toInt = 0 := (by decide); omega))) ( ft_cons (f_c (a := (xs 2)) (b := (Int32.ofNat 0)) rfl rfl rfl rfl (c_lt_t (by have a1 : (Int32.ofNat 0).toInt = 0 := (by decide); omega))) (ft_nil))))))), fj_nil⟩ R_5_0
def F_5_1 : fa := [(301, 0, 0, 49), (300, 0, 0, 2405), (1, 2405, 249, 41), (300, 1, 0, 2413), (300, 2, 0, 1), (202, 2413, 1, 9)]
set_option maxHeartbeats 0 in
theorem R_5_1 : fin_q (ev_rs eo0 (F_5_1, []) [7] Sa2) = true := by decide +kernel
theorem rd_5_1 (xs : Nat → Int32) (h0 : xs 0 &&& Int32.ofNat 31 = Int32.ofNat 5) (g1 : (xs 1).toInt ≤ -1) (g2 : (xs 2).toInt = 0) : law_at 6 xs := by
  have b1 := i32_r (xs 1)
  have e2 : xs 2 = (Int32.ofNat 0) := i32_eq (by rw [g2]; decide)
  have b2 := i32_r (xs 2)
  exact law_rd (L := 6) (xs := xs) (bt := []) (wt := []) (dt := []) (f := (F_5_1, [])) (ob_ok0 _) ⟨ft_cons (f_l rfl rfl) ( ft_cons (f_s rfl rfl rfl rfl) ( ft_cons (f_b rfl (fun r => congrArg (fun v => some (Value.int v :: r)) h0)) ( ft_cons (f_s rfl rfl rfl rfl) ( ft_cons (f_s rfl rfl rfl (congrArg Value.int e2)) ( ft_cons (f_c (a := (xs 1)) (b := (Int32.ofNat 0)) rfl rfl rfl rfl (c_lt_t (by have a1 : (Int32.ofNat 0).toInt = 0 := (by decide); omega))) (ft_nil)))))), fj_nil⟩ R_5_1
def F_5_2 : fa := [(301, 0, 0, 49), (300, 0, 0, 2405), (1, 2405, 249, 41), (300, 1, 0, 2413), (300, 2, 0, 2421), (202, 2413, 1, 9), (202, 2421, 1, 1), (202, 2421, 9, 1)]
set_option maxHeartbeats 0 in
theorem R_5_2 : fin_q (ev_rs eo0 (F_5_2, []) [7] Sa2) = true := by decide +kernel
theorem rd_5_2 (xs : Nat → Int32) (h0 : xs 0 &&& Int32.ofNat 31 = Int32.ofNat 5) (g1 : (xs 1).toInt ≤ -1) (g2 : 1 ≤ (xs 2).toInt) : law_at 6 xs := by
  have b1 := i32_r (xs 1)
  have b2 := i32_r (xs 2)
  exact law_rd (L := 6) (xs := xs) (bt := []) (wt := []) (dt := []) (f := (F_5_2, [])) (ob_ok0 _) ⟨ft_cons (f_l rfl rfl) ( ft_cons (f_s rfl rfl rfl rfl) ( ft_cons (f_b rfl (fun r => congrArg (fun v => some (Value.int v :: r)) h0)) ( ft_cons (f_s rfl rfl rfl rfl) ( ft_cons (f_s rfl rfl rfl rfl) ( ft_cons (f_c (a := (xs 1)) (b := (Int32.ofNat 0)) rfl rfl rfl rfl (c_lt_t (by have a1 : (Int32.ofNat 0).toInt = 0 := (by decide); omega))) ( ft_cons (f_c (a := (xs 2)) (b := (Int32.ofNat 0)) rfl rfl rfl rfl (c_lt_f (by have a1 : (Int32.ofNat 0).toInt = 0 := (by decide); omega))) ( ft_cons (f_c (a := (xs 2)) (b := (Int32.ofNat 1)) rfl rfl rfl rfl (c_lt_f (by have a1 : (Int32.ofNat 1).toInt = 1 := (by decide); omega))) (ft_nil)))))))), fj_nil⟩ R_5_2
def F_5_3 : fa := [(301, 0, 0, 49), (300, 0, 0, 2405), (1, 2405, 249, 41), (300, 1, 0, 1), (300, 2, 0, 2421), (202, 2421, 1, 9)]
set_option maxHeartbeats 0 in
theorem R_5_3 : fin_q (ev_rs eo0 (F_5_3, []) [8] Sa2) = true := by decide +kernel
theorem rd_5_3 (xs : Nat → Int32) (h0 : xs 0 &&& Int32.ofNat 31 = Int32.ofNat 5) (g1 : (xs 1).toInt = 0) (g2 : (xs 2).toInt ≤ -1) : law_at 6 xs := by
  have e1 : xs 1 = (Int32.ofNat 0) := i32_eq (by rw [g1]; decide)
  have b1 := i32_r (xs 1)
  have b2 := i32_r (xs 2)
  exact law_rd (L := 6) (xs := xs) (bt := []) (wt := []) (dt := []) (f := (F_5_3, [])) (ob_ok0 _) ⟨ft_cons (f_l rfl rfl) ( ft_cons (f_s rfl rfl rfl rfl) ( ft_cons (f_b rfl (fun r => congrArg (fun v => some (Value.int v :: r)) h0)) ( ft_cons (f_s rfl rfl rfl (congrArg Value.int e1)) ( ft_cons (f_s rfl rfl rfl rfl) ( ft_cons (f_c (a := (xs 2)) (b := (Int32.ofNat 0)) rfl rfl rfl rfl (c_lt_t (by have a1 : (Int32.ofNat 0).toInt = 0 := (by decide); omega))) (ft_nil)))))), fj_nil⟩ R_5_3
def F_5_4 : fa := [(301, 0, 0, 49), (300, 0, 0, 2405), (1, 2405, 249, 41), (300, 1, 0, 1), (300, 2, 0, 1)]
set_option maxHeartbeats 0 in
theorem R_5_4 : fin_q (ev_rs eo0 (F_5_4, []) [8] Sa2) = true := by decide +kernel
theorem rd_5_4 (xs : Nat → Int32) (h0 : xs 0 &&& Int32.ofNat 31 = Int32.ofNat 5) (g1 : (xs 1).toInt = 0) (g2 : (xs 2).toInt = 0) : law_at 6 xs := by
  have e1 : xs 1 = (Int32.ofNat 0) := i32_eq (by rw [g1]; decide)
  have b1 := i32_r (xs 1)
  have e2 : xs 2 = (Int32.ofNat 0) := i32_eq (by rw [g2]; decide)
  have b2 := i32_r (xs 2)
  exact law_rd (L := 6) (xs := xs) (bt := []) (wt := []) (dt := []) (f := (F_5_4, [])) (ob_ok0 _) ⟨ft_cons (f_l rfl rfl) ( ft_cons (f_s rfl rfl rfl rfl) ( ft_cons (f_b rfl (fun r => congrArg (fun v => some (Value.int v :: r)) h0)) ( ft_cons (f_s rfl rfl rfl (congrArg Value.int e1)) ( ft_cons (f_s rfl rfl rfl (congrArg Value.int e2)) (ft_nil))))), fj_nil⟩ R_5_4
def F_5_5 : fa := [(301, 0, 0, 49), (300, 0, 0, 2405), (1, 2405, 249, 41), (300, 1, 0, 1), (300, 2, 0, 2421), (202, 2421, 1, 1), (202, 2421, 9, 1), (203, 2421, 9, 9)]
set_option maxHeartbeats 0 in
theorem R_5_5 : fin_q (ev_rs eo0 (F_5_5, []) [8] Sa2) = true := by decide +kernel
theorem rd_5_5 (xs : Nat → Int32) (h0 : xs 0 &&& Int32.ofNat 31 = Int32.ofNat 5) (g1 : (xs 1).toInt = 0) (g2 : 1 ≤ (xs 2).toInt) : law_at 6 xs := by
  have e1 : xs 1 = (Int32.ofNat 0) := i32_eq (by rw [g1]; decide)
  have b1 := i32_r (xs 1)
  have b2 := i32_r (xs 2)
  exact law_rd (L := 6) (xs := xs) (bt := []) (wt := []) (dt := []) (f := (F_5_5, [])) (ob_ok0 _) ⟨ft_cons (f_l rfl rfl) ( ft_cons (f_s rfl rfl rfl rfl) ( ft_cons (f_b rfl (fun r => congrArg (fun v => some (Value.int v :: r)) h0)) ( ft_cons (f_s rfl rfl rfl (congrArg Value.int e1)) ( ft_cons (f_s rfl rfl rfl rfl) ( ft_cons (f_c (a := (xs 2)) (b := (Int32.ofNat 0)) rfl rfl rfl rfl (c_lt_f (by have a1 : (Int32.ofNat 0).toInt = 0 := (by decide); omega))) ( ft_cons (f_c (a := (xs 2)) (b := (Int32.ofNat 1)) rfl rfl rfl rfl (c_lt_f (by have a1 : (Int32.ofNat 1).toInt = 1 := (by decide); omega))) ( ft_cons (f_c (a := (xs 2)) (b := (Int32.ofNat 1)) rfl rfl rfl rfl (c_ge_t (by have a1 : (Int32.ofNat 1).toInt = 1 := (by decide); omega))) (ft_nil)))))))), fj_nil⟩ R_5_5
def F_5_6 : fa := [(301, 0, 0, 49), (300, 0, 0, 2405), (1, 2405, 249, 41), (300, 1, 0, 2413), (300, 2, 0, 2421), (202, 2413, 1, 1), (202, 2413, 9, 1), (202, 2421, 1, 9), (203, 2413, 9, 9)]
set_option maxHeartbeats 0 in
theorem R_5_6 : fin_q (ev_rs eo0 (F_5_6, []) [7] Sa2) = true := by decide +kernel
theorem rd_5_6 (xs : Nat → Int32) (h0 : xs 0 &&& Int32.ofNat 31 = Int32.ofNat 5) (g1 : 1 ≤ (xs 1).toInt) (g2 : (xs 2).toInt ≤ -1) : law_at 6 xs := by
  have b1 := i32_r (xs 1)
  have b2 := i32_r (xs 2)
  exact law_rd (L := 6) (xs := xs) (bt := []) (wt := []) (dt := []) (f := (F_5_6, [])) (ob_ok0 _) ⟨ft_cons (f_l rfl rfl) ( ft_cons (f_s rfl rfl rfl rfl) ( ft_cons (f_b rfl (fun r => congrArg (fun v => some (Value.int v :: r)) h0)) ( ft_cons (f_s rfl rfl rfl rfl) ( ft_cons (f_s rfl rfl rfl rfl) ( ft_cons (f_c (a := (xs 1)) (b := (Int32.ofNat 0)) rfl rfl rfl rfl (c_lt_f (by have a1 : (Int32.ofNat 0).toInt = 0 := (by decide); omega))) ( ft_cons (f_c (a := (xs 1)) (b := (Int32.ofNat 1)) rfl rfl rfl rfl (c_lt_f (by have a1 : (Int32.ofNat 1).toInt = 1 := (by decide); omega))) ( ft_cons (f_c (a := (xs 2)) (b := (Int32.ofNat 0)) rfl rfl rfl rfl (c_lt_t (by have a1 : (Int32.ofNat 0).toInt = 0 := (by decide); omega))) ( ft_cons (f_c (a := (xs 1)) (b := (Int32.ofNat 1)) rfl rfl rfl rfl (c_ge_t (by have a1 : (Int32.ofNat 1).toInt = 1 := (by decide); omega))) (ft_nil))))))))), fj_nil⟩ R_5_6
def F_5_7 : fa := [(301, 0, 0, 49), (300, 0, 0, 2405), (1, 2405, 249, 41), (300, 1, 0, 2413), (300, 2, 0, 1), (202, 2413, 1, 1), (202, 2413, 9, 1), (203, 2413, 9, 9)]
set_option maxHeartbeats 0 in
theorem R_5_7 : fin_q (ev_rs eo0 (F_5_7, []) [8] Sa2) = true := by decide +kernel
theorem rd_5_7 (xs : Nat → Int32) (h0 : xs 0 &&& Int32.ofNat 31 = Int32.ofNat 5) (g1 : 1 ≤ (xs 1).toInt) (g2 : (xs 2).toInt = 0) : law_at 6 xs := by
  have b1 := i32_r (xs 1)
  have e2 : xs 2 = (Int32.ofNat 0) := i32_eq (by rw [g2]; decide)
  have b2 := i32_r (xs 2)
  exact law_rd (L := 6) (xs := xs) (bt := []) (wt := []) (dt := []) (f := (F_5_7, [])) (ob_ok0 _) ⟨ft_cons (f_l rfl rfl) ( ft_cons (f_s rfl rfl rfl rfl) ( ft_cons (f_b rfl (fun r => congrArg (fun v => some (Value.int v :: r)) h0)) ( ft_cons (f_s rfl rfl rfl rfl) ( ft_cons (f_s rfl rfl rfl (congrArg Value.int e2)) ( ft_cons (f_c (a := (xs 1)) (b := (Int32.ofNat 0)) rfl rfl rfl rfl (c_lt_f (by have a1 : (Int32.ofNat 0).toInt = 0 := (by decide); omega))) ( ft_cons (f_c (a := (xs 1)) (b := (Int32.ofNat 1)) rfl rfl rfl rfl (c_lt_f (by have a1 : (Int32.ofNat 1).toInt = 1 := (by decide); omega))) ( ft_cons (f_c (a := (xs 1)) (b := (Int32.ofNat 1)) rfl rfl rfl rfl (c_ge_t (by have a1 : (Int32.ofNat 1).toInt = 1 := (by decide); omega))) (ft_nil)))))))), fj_nil⟩ R_5_7
def F_5_8 : fa := [(301, 0, 0, 49), (300, 0, 0, 2405), (1, 2405, 249, 41), (300, 1, 0, 2413), (300, 2, 0, 2421), (202, 2413, 1, 1), (202, 2413, 9, 1), (202, 2421, 1, 1), (202, 2421, 9, 1), (203, 2413, 9, 9)]
set_option maxHeartbeats 0 in
theorem R_5_8 : fin_q (ev_rs eo0 (F_5_8, []) [8] Sa2) = true := by decide +kernel
theorem rd_5_8 (xs : Nat → Int32) (h0 : xs 0 &&& Int32.ofNat 31 = Int32.ofNat 5) (g1 : 1 ≤ (xs 1).toInt) (g2 : 1 ≤ (xs 2).toInt) : law_at 6 xs := by
  have b1 := i32_r (xs 1)
  have b2 := i32_r (xs 2)
  exact law_rd (L := 6) (xs := xs) (bt := []) (wt := []) (dt := []) (f := (F_5_8, [])) (ob_ok0 _) ⟨ft_cons (f_l rfl rfl) ( ft_cons (f_s rfl rfl rfl rfl) ( ft_cons (f_b rfl (fun r => congrArg (fun v => some (Value.int v :: r)) h0)) ( ft_cons (f_s rfl rfl rfl rfl) ( ft_cons (f_s rfl rfl rfl rfl) ( ft_cons (f_c (a := (xs 1)) (b := (Int32.ofNat 0)) rfl rfl rfl rfl (c_lt_f (by have a1 : (Int32.ofNat 0).toInt = 0 := (by decide); omega))) ( ft_cons (f_c (a := (xs 1)) (b := (Int32.ofNat 1)) rfl rfl rfl rfl (c_lt_f (by have a1 : (Int32.ofNat 1).toInt = 1 := (by decide); omega))) ( ft_cons (f_c (a := (xs 2)) (b := (Int32.ofNat 0)) rfl rfl rfl rfl (c_lt_f (by have a1 : (Int32.ofNat 0).toInt = 0 := (by decide); omega))) ( ft_cons (f_c (a := (xs 2)) (b := (Int32.ofNat 1)) rfl rfl rfl rfl (c_lt_f (by have a1 : (Int32.ofNat 1).toInt = 1 := (by decide); omega))) ( ft_cons (f_c (a := (xs 1)) (b := (Int32.ofNat 1)) rfl rfl rfl rfl (c_ge_t (by have a1 : (Int32.ofNat 1).toInt = 1 := (by decide); omega))) (ft_nil)))))))))), fj_nil⟩ R_5_8
theorem cs_5 (xs : Nat → Int32) (h0 : xs 0 &&& Int32.ofNat 31 = Int32.ofNat 5) : law_at 6 xs := by
  have b1 := i32_r (xs 1)
  have b2 := i32_r (xs 2)
  have b3 := i32_r (xs 3)
  have b4 := i32_r (xs 4)
  have b5 := i32_r (xs 5)
  by_cases q2 : (xs 1).toInt < 0
  · skip
    by_cases q0 : (xs 2).toInt < 0
    · skip
      exact rd_5_0 xs h0 (by omega) (by omega)
    by_cases q1 : (xs 2).toInt < 1
    · skip
      exact rd_5_1 xs h0 (by omega) (by omega)
    exact rd_5_2 xs h0 (by omega) (by omega)
  by_cases q5 : (xs 1).toInt < 1
  · skip
    by_cases q3 : (xs 2).toInt < 0
    · skip
      exact rd_5_3 xs h0 (by omega) (by omega)
    by_cases q4 : (xs 2).toInt < 1
    · skip
      exact rd_5_4 xs h0 (by omega) (by omega)
    exact rd_5_5 xs h0 (by omega) (by omega)
  by_cases q6 : (xs 2).toInt < 0
  · skip
    exact rd_5_6 xs h0 (by omega) (by omega)
  by_cases q7 : (xs 2).toInt < 1
  · skip
    exact rd_5_7 xs h0 (by omega) (by omega)
  exact rd_5_8 xs h0 (by omega) (by omega)
def F_6_0 : fa := [(301, 0, 0, 49), (300, 0, 0, 2405), (1, 2405, 249, 49), (300, 1, 0, 2413), (202, 2413, 1, 9)]
set_option maxHeartbeats 0 in
theorem R_6_0 : fin_q (ev_rs eo0 (F_6_0, []) [7] Sa2) = true := by decide +kernel
theorem rd_6_0 (xs : Nat → Int32) (h0 : xs 0 &&& Int32.ofNat 31 = Int32.ofNat 6) (g1 : (xs 1).toInt ≤ -1) : law_at 6 xs := by
  have b1 := i32_r (xs 1)
  exact law_rd (L := 6) (xs := xs) (bt := []) (wt := []) (dt := []) (f := (F_6_0, [])) (ob_ok0 _) ⟨ft_cons (f_l rfl rfl) ( ft_cons (f_s rfl rfl rfl rfl) ( ft_cons (f_b rfl (fun r => congrArg (fun v => some (Value.int v :: r)) h0)) ( ft_cons (f_s rfl rfl rfl rfl) ( ft_cons (f_c (a := (xs 1)) (b := (Int32.ofNat 0)) rfl rfl rfl rfl (c_lt_t (by have a1 : (Int32.ofNat 0).toInt = 0 := (by decide); omega))) (ft_nil))))), fj_nil⟩ R_6_0
def F_6_1 : fa := [(301, 0, 0, 49), (300, 0, 0, 2405), (1, 2405, 249, 49), (300, 1, 0, 1)]
set_option maxHeartbeats 0 in
theorem R_6_1 : fin_q (ev_rs eo0 (F_6_1, []) [8] Sa2) = true := by decide +kernel
theorem rd_6_1 (xs : Nat → Int32) (h0 : xs 0 &&& Int32.ofNat 31 = Int32.ofNat 6) (g1 : (xs 1).toInt = 0) : law_at 6 xs := by
  have e1 : xs 1 = (Int32.ofNat 0) := i32_eq (by rw [g1]; decide)
  have b1 := i32_r (xs 1)
  exact law_rd (L := 6) (xs := xs) (bt := []) (wt := []) (dt := []) (f := (F_6_1, [])) (ob_ok0 _) ⟨ft_cons (f_l rfl rfl) ( ft_cons (f_s rfl rfl rfl rfl) ( ft_cons (f_b rfl (fun r => congrArg (fun v => some (Value.int v :: r)) h0)) ( ft_cons (f_s rfl rfl rfl (congrArg Value.int e1)) (ft_nil)))), fj_nil⟩ R_6_1
def F_6_2 : fa := [(301, 0, 0, 49), (300, 0, 0, 2405), (1, 2405, 249, 49), (300, 1, 0, 2413), (202, 2413, 1, 1), (202, 2413, 9, 1), (203, 2413, 9, 9)]
set_option maxHeartbeats 0 in
theorem R_6_2 : fin_q (ev_rs eo0 (F_6_2, []) [7] Sa2) = true := by decide +kernel
theorem rd_6_2 (xs : Nat → Int32) (h0 : xs 0 &&& Int32.ofNat 31 = Int32.ofNat 6) (g1 : 1 ≤ (xs 1).toInt) : law_at 6 xs := by
  have b1 := i32_r (xs 1)
  exact law_rd (L := 6) (xs := xs) (bt := []) (wt := []) (dt := []) (f := (F_6_2, [])) (ob_ok0 _) ⟨ft_cons (f_l rfl rfl) ( ft_cons (f_s rfl rfl rfl rfl) ( ft_cons (f_b rfl (fun r => congrArg (fun v => some (Value.int v :: r)) h0)) ( ft_cons (f_s rfl rfl rfl rfl) ( ft_cons (f_c (a := (xs 1)) (b := (Int32.ofNat 0)) rfl rfl rfl rfl (c_lt_f (by have a1 : (Int32.ofNat 0).toInt = 0 := (by decide); omega))) ( ft_cons (f_c (a := (xs 1)) (b := (Int32.ofNat 1)) rfl rfl rfl rfl (c_lt_f (by have a1 : (Int32.ofNat 1).toInt = 1 := (by decide); omega))) ( ft_cons (f_c (a := (xs 1)) (b := (Int32.ofNat 1)) rfl rfl rfl rfl (c_ge_t (by have a1 : (Int32.ofNat 1).toInt = 1 := (by decide); omega))) (ft_nil))))))), fj_nil⟩ R_6_2
theorem cs_6 (xs : Nat → Int32) (h0 : xs 0 &&& Int32.ofNat 31 = Int32.ofNat 6) : law_at 6 xs := by
  have b1 := i32_r (xs 1)
  have b2 := i32_r (xs 2)
  have b3 := i32_r (xs 3)
  have b4 := i32_r (xs 4)
  have b5 := i32_r (xs 5)
  by_cases q0 : (xs 1).toInt < 0
  · skip
    exact rd_6_0 xs h0 (by omega)
  by_cases q1 : (xs 1).toInt < 1
  · skip
    exact rd_6_1 xs h0 (by omega)
  exact rd_6_2 xs h0 (by omega)
def F_7_0 : fa := [(301, 0, 0, 49), (300, 0, 0, 2405), (1, 2405, 249, 57), (300, 1, 0, 2413), (202, 2413, 1, 9)]
set_option maxHeartbeats 0 in
theorem R_7_0 : fin_q (ev_rs eo0 (F_7_0, []) [7] Sa2) = true := by decide +kernel
theorem rd_7_0 (xs : Nat → Int32) (h0 : xs 0 &&& Int32.ofNat 31 = Int32.ofNat 7) (g1 : (xs 1).toInt ≤ -1) : law_at 6 xs := by
  have b1 := i32_r (xs 1)
  exact law_rd (L := 6) (xs := xs) (bt := []) (wt := []) (dt := []) (f := (F_7_0, [])) (ob_ok0 _) ⟨ft_cons (f_l rfl rfl) ( ft_cons (f_s rfl rfl rfl rfl) ( ft_cons (f_b rfl (fun r => congrArg (fun v => some (Value.int v :: r)) h0)) ( ft_cons (f_s rfl rfl rfl rfl) ( ft_cons (f_c (a := (xs 1)) (b := (Int32.ofNat 0)) rfl rfl rfl rfl (c_lt_t (by have a1 : (Int32.ofNat 0).toInt = 0 := (by decide); omega))) (ft_nil))))), fj_nil⟩ R_7_0
def F_7_1 : fa := [(301, 0, 0, 49), (300, 0, 0, 2405), (1, 2405, 249, 57), (300, 1, 0, 1)]
set_option maxHeartbeats 0 in
theorem R_7_1 : fin_q (ev_rs eo0 (F_7_1, []) [7] Sa2) = true := by decide +kernel
theorem rd_7_1 (xs : Nat → Int32) (h0 : xs 0 &&& Int32.ofNat 31 = Int32.ofNat 7) (g1 : (xs 1).toInt = 0) : law_at 6 xs := by
  have e1 : xs 1 = (Int32.ofNat 0) := i32_eq (by rw [g1]; decide)
  have b1 := i32_r (xs 1)
  exact law_rd (L := 6) (xs := xs) (bt := []) (wt := []) (dt := []) (f := (F_7_1, [])) (ob_ok0 _) ⟨ft_cons (f_l rfl rfl) ( ft_cons (f_s rfl rfl rfl rfl) ( ft_cons (f_b rfl (fun r => congrArg (fun v => some (Value.int v :: r)) h0)) ( ft_cons (f_s rfl rfl rfl (congrArg Value.int e1)) (ft_nil)))), fj_nil⟩ R_7_1
def F_7_2 : fa := [(301, 0, 0, 49), (300, 0, 0, 2405), (1, 2405, 249, 57), (300, 1, 0, 2413), (202, 2413, 1, 1), (202, 2413, 9, 1), (203, 2413, 9, 9)]
set_option maxHeartbeats 0 in
theorem R_7_2 : fin_q (ev_rs eo0 (F_7_2, []) [7] Sa2) = true := by decide +kernel
theorem rd_7_2 (xs : Nat → Int32) (h0 : xs 0 &&& Int32.ofNat 31 = Int32.ofNat 7) (g1 : 1 ≤ (xs 1).toInt) : law_at 6 xs := by
  have b1 := i32_r (xs 1)
  exact law_rd (L := 6) (xs := xs) (bt := []) (wt := []) (dt := []) (f := (F_7_2, [])) (ob_ok0 _) ⟨ft_cons (f_l rfl rfl) ( ft_cons (f_s rfl rfl rfl rfl) ( ft_cons (f_b rfl (fun r => congrArg (fun v => some (Value.int v :: r)) h0)) ( ft_cons (f_s rfl rfl rfl rfl) ( ft_cons (f_c (a := (xs 1)) (b := (Int32.ofNat 0)) rfl rfl rfl rfl (c_lt_f (by have a1 : (Int32.ofNat 0).toInt = 0 := (by decide); omega))) ( ft_cons (f_c (a := (xs 1)) (b := (Int32.ofNat 1)) rfl rfl rfl rfl (c_lt_f (by have a1 : (Int32.ofNat 1).toInt = 1 := (by decide); omega))) ( ft_cons (f_c (a := (xs 1)) (b := (Int32.ofNat 1)) rfl rfl rfl rfl (c_ge_t (by have a1 : (Int32.ofNat 1).toInt = 1 := (by decide); omega))) (ft_nil))))))), fj_nil⟩ R_7_2
theorem cs_7 (xs : Nat → Int32) (h0 : xs 0 &&& Int32.ofNat 31 = Int32.ofNat 7) : law_at 6 xs := by
  have b1 := i32_r (xs 1)
  have b2 := i32_r (xs 2)
  have b3 := i32_r (xs 3)
  have b4 := i32_r (xs 4)
  have b5 := i32_r (xs 5)
  by_cases q0 : (xs 1).toInt < 0
  · skip
    exact rd_7_0 xs h0 (by omega)
  by_cases q1 : (xs 1).toInt < 1
  · skip
    exact rd_7_1 xs h0 (by omega)
  exact rd_7_2 xs h0 (by omega)
def F_8_0 : fa := [(301, 0, 0, 49), (300, 0, 0, 2405), (1, 2405, 249, 65), (300, 1, 0, 2413), (300, 2, 0, 2421), (300, 3, 0, 2429), (202, 2413, 1, 9)]
set_option maxHeartbeats 0 in
theorem R_8_0 : fin_q (ev_rs eo0 (F_8_0, []) [7] Sa2) = true := by decide +kernel
theorem rd_8_0 (xs : Nat → Int32) (h0 : xs 0 &&& Int32.ofNat 31 = Int32.ofNat 8) (g1 : (xs 1).toInt ≤ -1) : law_at 6 xs := by
  have b1 := i32_r (xs 1)
  exact law_rd (L := 6) (xs := xs) (bt := []) (wt := []) (dt := []) (f := (F_8_0, [])) (ob_ok0 _) ⟨ft_cons (f_l rfl rfl) ( ft_cons (f_s rfl rfl rfl rfl) ( ft_cons (f_b rfl (fun r => congrArg (fun v => some (Value.int v :: r)) h0)) ( ft_cons (f_s rfl rfl rfl rfl) ( ft_cons (f_s rfl rfl rfl rfl) ( ft_cons (f_s rfl rfl rfl rfl) ( ft_cons (f_c (a := (xs 1)) (b := (Int32.ofNat 0)) rfl rfl rfl rfl (c_lt_t (by have a1 : (Int32.ofNat 0).toInt = 0 := (by decide); omega))) (ft_nil))))))), fj_nil⟩ R_8_0
def F_8_1 : fa := [(301, 0, 0, 49), (300, 0, 0, 2405), (1, 2405, 249, 65), (300, 1, 0, 1), (300, 2, 0, 2421), (300, 3, 0, 2429)]
set_option maxHeartbeats 0 in
theorem R_8_1 : fin_q (ev_rs eo0 (F_8_1, []) [7] Sa2) = true := by decide +kernel
theorem rd_8_1 (xs : Nat → Int32) (h0 : xs 0 &&& Int32.ofNat 31 = Int32.ofNat 8) (g1 : (xs 1).toInt = 0) : law_at 6 xs := by
  have e1 : xs 1 = (Int32.ofNat 0) := i32_eq (by rw [g1]; decide)
  have b1 := i32_r (xs 1)
  exact law_rd (L := 6) (xs := xs) (bt := []) (wt := []) (dt := []) (f := (F_8_1, [])) (ob_ok0 _) ⟨ft_cons (f_l rfl rfl) ( ft_cons (f_s rfl rfl rfl rfl) ( ft_cons (f_b rfl (fun r => congrArg (fun v => some (Value.int v :: r)) h0)) ( ft_cons (f_s rfl rfl rfl (congrArg Value.int e1)) ( ft_cons (f_s rfl rfl rfl rfl) ( ft_cons (f_s rfl rfl rfl rfl) (ft_nil)))))), fj_nil⟩ R_8_1
def F_8_2 : fa := [(301, 0, 0, 49), (300, 0, 0, 2405), (1, 2405, 249, 65), (300, 1, 0, 2413), (300, 2, 0, 2421), (300, 3, 0, 2429), (202, 2413, 1, 1), (202, 2413, 9, 1), (203, 2413, 9, 9)]
set_option maxHeartbeats 0 in
theorem R_8_2 : fin_q (ev_rs eo0 (F_8_2, []) [7] Sa2) = true := by decide +kernel
theorem rd_8_2 (xs : Nat → Int32) (h0 : xs 0 &&& Int32.ofNat 31 = Int32.ofNat 8) (g1 : 1 ≤ (xs 1).toInt) : law_at 6 xs := by
  have b1 := i32_r (xs 1)
  exact law_rd (L := 6) (xs := xs) (bt := []) (wt := []) (dt := []) (f := (F_8_2, [])) (ob_ok0 _) ⟨ft_cons (f_l rfl rfl) ( ft_cons (f_s rfl rfl rfl rfl) ( ft_cons (f_b rfl (fun r => congrArg (fun v => some (Value.int v :: r)) h0)) ( ft_cons (f_s rfl rfl rfl rfl) ( ft_cons (f_s rfl rfl rfl rfl) ( ft_cons (f_s rfl rfl rfl rfl) ( ft_cons (f_c (a := (xs 1)) (b := (Int32.ofNat 0)) rfl rfl rfl rfl (c_lt_f (by have a1 : (Int32.ofNat 0).toInt = 0 := (by decide); omega))) ( ft_cons (f_c (a := (xs 1)) (b := (Int32.ofNat 1)) rfl rfl rfl rfl (c_lt_f (by have a1 : (Int32.ofNat 1).toInt = 1 := (by decide); omega))) ( ft_cons (f_c (a := (xs 1)) (b := (Int32.ofNat 1)) rfl rfl rfl rfl (c_ge_t (by have a1 : (Int32.ofNat 1).toInt = 1 := (by decide); omega))) (ft_nil))))))))), fj_nil⟩ R_8_2
theorem cs_8 (xs : Nat → Int32) (h0 : xs 0 &&& Int32.ofNat 31 = Int32.ofNat 8) : law_at 6 xs := by
  have b1 := i32_r (xs 1)
  have b2 := i32_r (xs 2)
  have b3 := i32_r (xs 3)
  have b4 := i32_r (xs 4)
  have b5 := i32_r (xs 5)
  by_cases q0 : (xs 1).toInt < 0
  · skip
    exact rd_8_0 xs h0 (by omega)
  by_cases q1 : (xs 1).toInt < 1
  · skip
    exact rd_8_1 xs h0 (by omega)
  exact rd_8_2 xs h0 (by omega)
def F_9_0 : fa := [(301, 0, 0, 49), (300, 0, 0, 2405), (1, 2405, 249, 73), (300, 1, 0, 2413), (300, 2, 0, 2421), (300, 3, 0, 2429), (300, 4, 0, 2437), (300, 5, 0, 2445), (202, 2413, 1, 9)]
set_option maxHeartbeats 0 in
theorem R_9_0 : fin_q (ev_rs eo0 (F_9_0, []) [7] Sa2) = true := by decide +kernel
theorem rd_9_0 (xs : Nat → Int32) (h0 : xs 0 &&& Int32.ofNat 31 = Int32.ofNat 9) (g1 : (xs 1).toInt ≤ -1) : law_at 6 xs := by
  have b1 := i32_r (xs 1)
  exact law_rd (L := 6) (xs := xs) (bt := []) (wt := []) (dt := []) (f := (F_9_0, [])) (ob_ok0 _) ⟨ft_cons (f_l rfl rfl) ( ft_cons (f_s rfl rfl rfl rfl) ( ft_cons (f_b rfl (fun r => congrArg (fun v => some (Value.int v :: r)) h0)) ( ft_cons (f_s rfl rfl rfl rfl) ( ft_cons (f_s rfl rfl rfl rfl) ( ft_cons (f_s rfl rfl rfl rfl) ( ft_cons (f_s rfl rfl rfl rfl) ( ft_cons (f_s rfl rfl rfl rfl) ( ft_cons (f_c (a := (xs 1)) (b := (Int32.ofNat 0)) rfl rfl rfl rfl (c_lt_t (by have a1 : (Int32.ofNat 0).toInt = 0 := (by decide); omega))) (ft_nil))))))))), fj_nil⟩ R_9_0
def F_9_1 : fa := [(301, 0, 0, 49), (300, 0, 0, 2405), (1, 2405, 249, 73), (300, 1, 0, 1), (300, 2, 0, 2421), (300, 3, 0, 2429), (300, 4, 0, 2437), (300, 5, 0, 2445), (202, 2421, 1, 9)]
set_option maxHeartbeats 0 in
theorem R_9_1 : fin_q (ev_rs eo0 (F_9_1, []) [7] Sa2) = true := by decide +kernel
theorem rd_9_1 (xs : Nat → Int32) (h0 : xs 0 &&& Int32.ofNat 31 = Int32.ofNat 9) (g1 : (xs 1).toInt = 0) (g2 : (xs 2).toInt ≤ -1) : law_at 6 xs := by
  have e1 : xs 1 = (Int32.ofNat 0) := i32_eq (by rw [g1]; decide)
  have b1 := i32_r (xs 1)
  have b2 := i32_r (xs 2)
  exact law_rd (L := 6) (xs := xs) (bt := []) (wt := []) (dt := []) (f := (F_9_1, [])) (ob_ok0 _) ⟨ft_cons (f_l rfl rfl) ( ft_cons (f_s rfl rfl rfl rfl) ( ft_cons (f_b rfl (fun r => congrArg (fun v => some (Value.int v :: r)) h0)) ( ft_cons (f_s rfl rfl rfl (congrArg Value.int e1)) ( ft_cons (f_s rfl rfl rfl rfl) ( ft_cons (f_s rfl rfl rfl rfl) ( ft_cons (f_s rfl rfl rfl rfl) ( ft_cons (f_s rfl rfl rfl rfl) ( ft_cons (f_c (a := (xs 2)) (b := (Int32.ofNat 0)) rfl rfl rfl rfl (c_lt_t (by have a1 : (Int32.ofNat 0).toInt = 0 := (by decide); omega))) (ft_nil))))))))), fj_nil⟩ R_9_1
def F_9_2 : fa := [(301, 0, 0, 49), (300, 0, 0, 2405), (1, 2405, 249, 73), (300, 1, 0, 1), (300, 2, 0, 2421), (300, 3, 0, 2429), (300, 4, 0, 2437), (300, 5, 0, 2445), (202, 2421, 1, 1), (205, 2421, 32761, 9)]
set_option maxHeartbeats 0 in
theorem R_9_2 : fin_q (ev_rs eo0 (F_9_2, []) [8] Sa2) = true := by decide +kernel
theorem rd_9_2 (xs : Nat → Int32) (h0 : xs 0 &&& Int32.ofNat 31 = Int32.ofNat 9) (g1 : (xs 1).toInt = 0) (g2 : 0 ≤ (xs 2).toInt ∧ (xs 2).toInt ≤ 4095) : law_at 6 xs := by
  have e1 : xs 1 = (Int32.ofNat 0) := i32_eq (by rw [g1]; decide)
  have b1 := i32_r (xs 1)
  have b2 := i32_r (xs 2)
  exact law_rd (L := 6) (xs := xs) (bt := []) (wt := []) (dt := []) (f := (F_9_2, [])) (ob_ok0 _) ⟨ft_cons (f_l rfl rfl) ( ft_cons (f_s rfl rfl rfl rfl) ( ft_cons (f_b rfl (fun r => congrArg (fun v => some (Value.int v :: r)) h0)) ( ft_cons (f_s rfl rfl rfl (congrArg Value.int e1)) ( ft_cons (f_s rfl rfl rfl rfl) ( ft_cons (f_s rfl rfl rfl rfl) ( ft_cons (f_s rfl rfl rfl rfl) ( ft_cons (f_s rfl rfl rfl rfl) ( ft_cons (f_c (a := (xs 2)) (b := (Int32.ofNat 0)) rfl rfl rfl rfl (c_lt_f (by have a1 : (Int32.ofNat 0).toInt = 0 := (by decide); omega))) ( ft_cons (f_c (a := (xs 2)) (b := (Int32.ofNat 4095)) rfl rfl rfl rfl (c_le_t (by have a1 : (Int32.ofNat 4095).toInt = 4095 := (by decide); omega))) (ft_nil)))))))))), fj_nil⟩ R_9_2
def F_9_3 : fa := [(301, 0, 0, 49), (300, 0, 0, 2405), (1, 2405, 249, 73), (300, 1, 0, 1), (300, 2, 0, 2421), (300, 3, 0, 2429), (300, 4, 0, 2437), (300, 5, 0, 2445), (202, 2421, 1, 1), (205, 2421, 32761, 1)]
set_option maxHeartbeats 0 in
theorem R_9_3 : fin_q (ev_rs eo0 (F_9_3, []) [7] Sa2) = true := by decide +kernel
theorem rd_9_3 (xs : Nat → Int32) (h0 : xs 0 &&& Int32.ofNat 31 = Int32.ofNat 9) (g1 : (xs 1).toInt = 0) (g2 : 4096 ≤ (xs 2).toInt) : law_at 6 xs := by
  have e1 : xs 1 = (Int32.ofNat 0) := i32_eq (by rw [g1]; decide)
  have b1 := i32_r (xs 1)
  have b2 := i32_r (xs 2)
  exact law_rd (L := 6) (xs := xs) (bt := []) (wt := []) (dt := []) (f := (F_9_3, [])) (ob_ok0 _) ⟨ft_cons (f_l rfl rfl) ( ft_cons (f_s rfl rfl rfl rfl) ( ft_cons (f_b rfl (fun r => congrArg (fun v => some (Value.int v :: r)) h0)) ( ft_cons (f_s rfl rfl rfl (congrArg Value.int e1)) ( ft_cons (f_s rfl rfl rfl rfl) ( ft_cons (f_s rfl rfl rfl rfl) ( ft_cons (f_s rfl rfl rfl rfl) ( ft_cons (f_s rfl rfl rfl rfl) ( ft_cons (f_c (a := (xs 2)) (b := (Int32.ofNat 0)) rfl rfl rfl rfl (c_lt_f (by have a1 : (Int32.ofNat 0).toInt = 0 := (by decide); omega))) ( ft_cons (f_c (a := (xs 2)) (b := (Int32.ofNat 4095)) rfl rfl rfl rfl (c_le_f (by have a1 : (Int32.ofNat 4095).toInt = 4095 := (by decide); omega))) (ft_nil)))))))))), fj_nil⟩ R_9_3
def F_9_4 : fa := [(301, 0, 0, 49), (300, 0, 0, 2405), (1, 2405, 249, 73), (300, 1, 0, 2413), (300, 2, 0, 2421), (300, 3, 0, 2429), (300, 4, 0, 2437), (300, 5, 0, 2445), (202, 2413, 1, 1), (202, 2413, 9, 1), (203, 2413, 9, 9)]
set_option maxHeartbeats 0 in
theorem R_9_4 : fin_q (ev_rs eo0 (F_9_4, []) [7] Sa2) = true := by decide +kernel
theorem rd_9_4 (xs : Nat → Int32) (h0 : xs 0 &&& Int32.ofNat 31 = Int32.ofNat 9) (g1 : 1 ≤ (xs 1).toInt) : law_at 6 xs := by
  have b1 := i32_r (xs 1)
  exact law_rd (L := 6) (xs := xs) (bt := []) (wt := []) (dt := []) (f := (F_9_4, [])) (ob_ok0 _) ⟨ft_cons (f_l rfl rfl) ( ft_cons (f_s rfl rfl rfl rfl) ( ft_cons (f_b rfl (fun r => congrArg (fun v => some (Value.int v :: r)) h0)) ( ft_cons (f_s rfl rfl rfl rfl) ( ft_cons (f_s rfl rfl rfl rfl) ( ft_cons (f_s rfl rfl rfl rfl) ( ft_cons (f_s rfl rfl rfl rfl) ( ft_cons (f_s rfl rfl rfl rfl) ( ft_cons (f_c (a := (xs 1)) (b := (Int32.ofNat 0)) rfl rfl rfl rfl (c_lt_f (by have a1 : (Int32.ofNat 0).toInt = 0 := (by decide); omega))) ( ft_cons (f_c (a := (xs 1)) (b := (Int32.ofNat 1)) rfl rfl rfl rfl (c_lt_f (by have a1 : (Int32.ofNat 1).toInt = 1 := (by decide); omega))) ( ft_cons (f_c (a := (xs 1)) (b := (Int32.ofNat 1)) rfl rfl rfl rfl (c_ge_t (by have a1 : (Int32.ofNat 1).toInt = 1 := (by decide); omega))) (ft_nil))))))))))), fj_nil⟩ R_9_4
theorem cs_9 (xs : Nat → Int32) (h0 : xs 0 &&& Int32.ofNat 31 = Int32.ofNat 9) : law_at 6 xs := by
  have b1 := i32_r (xs 1)
  have b2 := i32_r (xs 2)
  have b3 := i32_r (xs 3)
  have b4 := i32_r (xs 4)
  have b5 := i32_r (xs 5)
  by_cases q0 : (xs 1).toInt < 0
  · skip
    exact rd_9_0 xs h0 (by omega)
  by_cases q3 : (xs 1).toInt < 1
  · skip
    by_cases q1 : (xs 2).toInt < 0
    · skip
      exact rd_9_1 xs h0 (by omega) (by omega)
    by_cases q2 : (xs 2).toInt < 4096
    · skip
      exact rd_9_2 xs h0 (by omega) (by omega)
    exact rd_9_3 xs h0 (by omega) (by omega)
  exact rd_9_4 xs h0 (by omega)
def F_11_0 : fa := [(301, 0, 0, 49), (300, 0, 0, 2405), (1, 2405, 249, 89)]
set_option maxHeartbeats 0 in
theorem R_11_0 : fin_q (ev_rs eo0 (F_11_0, []) [6] Sa2) = true := by decide +kernel
theorem rd_11_0 (xs : Nat → Int32) (h0 : xs 0 &&& Int32.ofNat 31 = Int32.ofNat 11) : law_at 6 xs := by
  exact law_rd (L := 6) (xs := xs) (bt := []) (wt := []) (dt := []) (f := (F_11_0, [])) (ob_ok0 _) ⟨ft_cons (f_l rfl rfl) ( ft_cons (f_s rfl rfl rfl rfl) ( ft_cons (f_b rfl (fun r => congrArg (fun v => some (Value.int v :: r)) h0)) (ft_nil))), fj_nil⟩ R_11_0
theorem cs_11 (xs : Nat → Int32) (h0 : xs 0 &&& Int32.ofNat 31 = Int32.ofNat 11) : law_at 6 xs := by
  have b1 := i32_r (xs 1)
  have b2 := i32_r (xs 2)
  have b3 := i32_r (xs 3)
  have b4 := i32_r (xs 4)
  have b5 := i32_r (xs 5)
  exact rd_11_0 xs h0 
def F_12_0 : fa := [(301, 0, 0, 49), (300, 0, 0, 2405), (1, 2405, 249, 97)]
set_option maxHeartbeats 0 in
theorem R_12_0 : fin_q (ev_rs eo0 (F_12_0, []) [6] Sa2) = true := by decide +kernel
theorem rd_12_0 (xs : Nat → Int32) (h0 : xs 0 &&& Int32.ofNat 31 = Int32.ofNat 12) : law_at 6 xs := by
  exact law_rd (L := 6) (xs := xs) (bt := []) (wt := []) (dt := []) (f := (F_12_0, [])) (ob_ok0 _) ⟨ft_cons (f_l rfl rfl) ( ft_cons (f_s rfl rfl rfl rfl) ( ft_cons (f_b rfl (fun r => congrArg (fun v => some (Value.int v :: r)) h0)) (ft_nil))), fj_nil⟩ R_12_0
theorem cs_12 (xs : Nat → Int32) (h0 : xs 0 &&& Int32.ofNat 31 = Int32.ofNat 12) : law_at 6 xs := by
  have b1 := i32_r (xs 1)
  have b2 := i32_r (xs 2)
  have b3 := i32_r (xs 3)
  have b4 := i32_r (xs 4)
  have b5 := i32_r (xs 5)
  exact rd_12_0 xs h0 
def F_13_0 : fa := [(301, 0, 0, 49), (300, 0, 0, 2405), (1, 2405, 249, 105), (300, 1, 0, 2413), (202, 2413, 1, 9), (41, 2413, 0, 14), (12, 66, 14, 22), (13, 22, 58, 30), (15, 30, 22, 9)]
set_option maxHeartbeats 0 in
theorem R_13_0 : fin_q (ev_rs eo0 (F_13_0, []) [8] Sa2) = true := by decide +kernel
theorem rd_13_0 (xs : Nat → Int32) (h0 : xs 0 &&& Int32.ofNat 31 = Int32.ofNat 13) (g1 : (xs 1).toInt ≤ -1) : law_at 6 xs := by
  have b1 := i32_r (xs 1)
  have D1 : (((xs 1)).toInt64).toInt = 1 * (xs 1).toInt + 0 := by
    have q := af_0 (xs 1)
    omega
  have D2 : (((Int64.ofNat 8) * ((xs 1)).toInt64)).toInt = 8 * (xs 1).toInt + 0 := by
    have q := af_m (show ((Int64.ofNat 8)).toInt = 8 by decide) D1 (by omega) (by omega)
    omega
  have D3 : ((((Int64.ofNat 8) * ((xs 1)).toInt64) + (Int64.ofNat 7))).toInt = 8 * (xs 1).toInt + 7 := by
    have q := af_p D2 (show ((Int64.ofNat 7)).toInt = 7 by decide) (by omega) (by omega)
    omega
  exact law_rd (L := 6) (xs := xs) (bt := []) (wt := []) (dt := [((xs 1)).toInt64, ((Int64.ofNat 8) * ((xs 1)).toInt64), (((Int64.ofNat 8) * ((xs 1)).toInt64) + (Int64.ofNat 7))]) (f := (F_13_0, [])) (ob_ok0 _) ⟨ft_cons (f_l rfl rfl) ( ft_cons (f_s rfl rfl rfl rfl) ( ft_cons (f_b rfl (fun r => congrArg (fun v => some (Value.int v :: r)) h0)) ( ft_cons (f_s rfl rfl rfl rfl) ( ft_cons (f_c (a := (xs 1)) (b := (Int32.ofNat 0)) rfl rfl rfl rfl (c_lt_t (by have a1 : (Int32.ofNat 0).toInt = 0 := (by decide); omega))) ( ft_cons (f_u rfl rfl (fun r => rfl)) ( ft_cons (f_b rfl (fun r => rfl)) ( ft_cons (f_b rfl (fun r => rfl)) ( ft_cons (f_b rfl (fun r => congrArg (fun v => some (Value.int v :: r)) (l_gt (x := (((Int64.ofNat 8) * ((xs 1)).toInt64) + (Int64.ofNat 7))) (y := ((Int64.ofNat 8) * ((xs 1)).toInt64)) (by omega)))) (ft_nil))))))))), fj_nil⟩ R_13_0
def F_13_1 : fa := [(301, 0, 0, 49), (300, 0, 0, 2405), (1, 2405, 249, 105), (300, 1, 0, 1)]
set_option maxHeartbeats 0 in
theorem R_13_1 : fin_q (ev_rs eo0 (F_13_1, []) [9] Sa2) = true := by decide +kernel
theorem rd_13_1 (xs : Nat → Int32) (h0 : xs 0 &&& Int32.ofNat 31 = Int32.ofNat 13) (g1 : (xs 1).toInt = 0) : law_at 6 xs := by
  have e1 : xs 1 = (Int32.ofNat 0) := i32_eq (by rw [g1]; decide)
  have b1 := i32_r (xs 1)
  exact law_rd (L := 6) (xs := xs) (bt := []) (wt := []) (dt := []) (f := (F_13_1, [])) (ob_ok0 _) ⟨ft_cons (f_l rfl rfl) ( ft_cons (f_s rfl rfl rfl rfl) ( ft_cons (f_b rfl (fun r => congrArg (fun v => some (Value.int v :: r)) h0)) ( ft_cons (f_s rfl rfl rfl (congrArg Value.int e1)) (ft_nil)))), fj_nil⟩ R_13_1
def F_13_2 : fa := [(301, 0, 0, 49), (300, 0, 0, 2405), (1, 2405, 249, 105), (300, 1, 0, 2413), (202, 2413, 1, 1), (204, 2413, 1, 9), (41, 2413, 0, 14), (12, 66, 14, 22), (13, 22, 58, 30), (15, 30, 22, 9), (15, 30, 2, 9), (14, 30, 10, 38), (15, 38, 22, 9), (15, 38, 2, 9), (14, 38, 10, 46), (15, 46, 22, 9), (15, 46, 2, 9), (14, 46, 10, 54), (15, 54, 22, 9), (15, 54, 2, 9), (14, 54, 10, 62), (15, 62, 22, 9), (15, 62, 2, 9), (14, 62, 10, 70), (15, 70, 22, 9), (15, 70, 2, 9), (14, 70, 10, 78), (15, 78, 22, 9), (15, 78, 2, 9), (14, 78, 10, 86), (15, 86, 22, 1), (15, 86, 2, 9), (14, 86, 10, 94), (15, 94, 22, 34359738361)]
set_option maxHeartbeats 0 in
theorem R_13_2 : fin_q (ev_rs eo0 (F_13_2, []) [9] Sa2) = true := by decide +kernel
theorem rd_13_2 (xs : Nat → Int32) (h0 : xs 0 &&& Int32.ofNat 31 = Int32.ofNat 13) (g1 : 1 ≤ (xs 1).toInt) : law_at 6 xs := by
  have b1 := i32_r (xs 1)
  have D1 : (((xs 1)).toInt64).toInt = 1 * (xs 1).toInt + 0 := by
    have q := af_0 (xs 1)
    omega
  have D2 : (((Int64.ofNat 8) * ((xs 1)).toInt64)).toInt = 8 * (xs 1).toInt + 0 := by
    have q := af_m (show ((Int64.ofNat 8)).toInt = 8 by decide) D1 (by omega) (by omega)
    omega
  have D3 : ((((Int64.ofNat 8) * ((xs 1)).toInt64) + (Int64.ofNat 7))).toInt = 8 * (xs 1).toInt + 7 := by
    have q := af_p D2 (show ((Int64.ofNat 7)).toInt = 7 by decide) (by omega) (by omega)
    omega
  have D4 : (((((Int64.ofNat 8) * ((xs 1)).toInt64) + (Int64.ofNat 7)) - (Int64.ofNat 1))).toInt = 8 * (xs 1).toInt + 6 := by
    have q := af_s D3 (show ((Int64.ofNat 1)).toInt = 1 by decide) (by omega) (by omega)
    omega
  have D5 : ((((((Int64.ofNat 8) * ((xs 1)).toInt64) + (Int64.ofNat 7)) - (Int64.ofNat 1)) - (Int64.ofNat 1))).toInt = 8 * (xs 1).toInt + 5 := by
    have q := af_s D4 (show ((Int64.ofNat 1)).toInt = 1 by decide) (by omega) (by omega)
    omega
  have D6 : (((((((Int64.ofNat 8) * ((xs 1)).toInt64) + (Int64.ofNat 7)) - (Int64.ofNat 1)) - (Int64.ofNat 1)) - (Int64.ofNat 1))).toInt = 8 * (xs 1).toInt + 4 := by
    have q := af_s D5 (show ((Int64.ofNat 1)).toInt = 1 by decide) (by omega) (by omega)
    omega
  have D7 : ((((((((Int64.ofNat 8) * ((xs 1)).toInt64) + (Int64.ofNat 7)) - (Int64.ofNat 1)) - (Int64.ofNat 1)) - (Int64.ofNat 1)) - (Int64.ofNat 1))).toInt = 8 * (xs 1).toInt + 3 := by
    have q := af_s D6 (show ((Int64.ofNat 1)).toInt = 1 by decide) (by omega) (by omega)
    omega
  have D8 : (((((((((Int64.ofNat 8) * ((xs 1)).toInt64) + (Int64.ofNat 7)) - (Int64.ofNat 1)) - (Int64.ofNat 1)) - (Int64.ofNat 1)) - (Int64.ofNat 1)) - (Int64.ofNat 1))).toInt = 8 * (xs 1).toInt + 2 := by
    have q := af_s D7 (show ((Int64.ofNat 1)).toInt = 1 by decide) (by omega) (by omega)
    omega
  have D9 : ((((((((((Int64.ofNat 8) * ((xs 1)).toInt64) + (Int64.ofNat 7)) - (Int64.ofNat 1)) - (Int64.ofNat 1)) - (Int64.ofNat 1)) - (Int64.ofNat 1)) - (Int64.ofNat 1)) - (Int64.ofNat 1))).toInt = 8 * (xs 1).toInt + 1 := by
    have q := af_s D8 (show ((Int64.ofNat 1)).toInt = 1 by decide) (by omega) (by omega)
    omega
  have D10 : (((((((((((Int64.ofNat 8) * ((xs 1)).toInt64) + (Int64.ofNat 7)) - (Int64.ofNat 1)) - (Int64.ofNat 1)) - (Int64.ofNat 1)) - (Int64.ofNat 1)) - (Int64.ofNat 1)) - (Int64.ofNat 1)) - (Int64.ofNat 1))).toInt = 8 * (xs 1).toInt + 0 := by
    have q := af_s D9 (show ((Int64.ofNat 1)).toInt = 1 by decide) (by omega) (by omega)
    omega
  have D11 : ((((((((((((Int64.ofNat 8) * ((xs 1)).toInt64) + (Int64.ofNat 7)) - (Int64.ofNat 1)) - (Int64.ofNat 1)) - (Int64.ofNat 1)) - (Int64.ofNat 1)) - (Int64.ofNat 1)) - (Int64.ofNat 1)) - (Int64.ofNat 1)) - (Int64.ofNat 1))).toInt = 8 * (xs 1).toInt + -1 := by
    have q := af_s D10 (show ((Int64.ofNat 1)).toInt = 1 by decide) (by omega) (by omega)
    omega
  exact law_rd (L := 6) (xs := xs) (bt := []) (wt := []) (dt := [((xs 1)).toInt64, ((Int64.ofNat 8) * ((xs 1)).toInt64), (((Int64.ofNat 8) * ((xs 1)).toInt64) + (Int64.ofNat 7)), ((((Int64.ofNat 8) * ((xs 1)).toInt64) + (Int64.ofNat 7)) - (Int64.ofNat 1)), (((((Int64.ofNat 8) * ((xs 1)).toInt64) + (Int64.ofNat 7)) - (Int64.ofNat 1)) - (Int64.ofNat 1)), ((((((Int64.ofNat 8) * ((xs 1)).toInt64) + (Int64.ofNat 7)) - (Int64.ofNat 1)) - (Int64.ofNat 1)) - (Int64.ofNat 1)), (((((((Int64.ofNat 8) * ((xs 1)).toInt64) + (Int64.ofNat 7)) - (Int64.ofNat 1)) - (Int64.ofNat 1)) - (Int64.ofNat 1)) - (Int64.ofNat 1)), ((((((((Int64.ofNat 8) * ((xs 1)).toInt64) + (Int64.ofNat 7)) - (Int64.ofNat 1)) - (Int64.ofNat 1)) - (Int64.ofNat 1)) - (Int64.ofNat 1)) - (Int64.ofNat 1)), (((((((((Int64.ofNat 8) * ((xs 1)).toInt64) + (Int64.ofNat 7)) - (Int64.ofNat 1)) - (Int64.ofNat 1)) - (Int64.ofNat 1)) - (Int64.ofNat 1)) - (Int64.ofNat 1)) - (Int64.ofNat 1)), ((((((((((Int64.ofNat 8) * ((xs 1)).toInt64) + (Int64.ofNat 7)) - (Int64.ofNat 1)) - (Int64.ofNat 1)) - (Int64.ofNat 1)) - (Int64.ofNat 1)) - (Int64.ofNat 1)) - (Int64.ofNat 1)) - (Int64.ofNat 1)), (((((((((((Int64.ofNat 8) * ((xs 1)).toInt64) + (Int64.ofNat 7)) - (Int64.ofNat 1)) - (Int64.ofNat 1)) - (Int64.ofNat 1)) - (Int64.ofNat 1)) - (Int64.ofNat 1)) - (Int64.ofNat 1)) - (Int64.ofNat 1)) - (Int64.ofNat 1))]) (f := (F_13_2, [])) (ob_ok0 _) ⟨ft_cons (f_l rfl rfl) ( ft_cons (f_s rfl rfl rfl rfl) ( ft_cons (f_b rfl (fun r => congrArg (fun v => some (Value.int v :: r)) h0)) ( ft_cons (f_s rfl rfl rfl rfl) ( ft_cons (f_c (a := (xs 1)) (b := (Int32.ofNat 0)) rfl rfl rfl rfl (c_lt_f (by have a1 : (Int32.ofNat 0).toInt = 0 := (by decide); omega))) ( ft_cons (f_c (a := (xs 1)) (b := (Int32.ofNat 0)) rfl rfl rfl rfl (c_gt_t (by have a1 : (Int32.ofNat 0).toInt = 0 := (by decide); omega))) ( ft_cons (f_u rfl rfl (fun r => rfl)) ( ft_cons (f_b rfl (fun r => rfl)) ( ft_cons (f_b rfl (fun r => rfl)) ( ft_cons (f_b rfl (fun r => congrArg (fun v => some (Value.int v :: r)) (l_gt (x := (((Int64.ofNat 8) * ((xs 1)).toInt64) + (Int64.ofNat 7))) (y := ((Int64.ofNat 8) * ((xs 1)).toInt64)) (by omega)))) ( ft_cons (f_b rfl (fun r => congrArg (fun v => some (Value.int v :: r)) (l_gt (x := (((Int64.ofNat 8) * ((xs 1)).toInt64) + (Int64.ofNat 7))) (y := (Int64.ofNat 0)) (by have a1 : (Int64.ofNat 0).toInt = 0 := (by decide); omega)))) ( ft_cons (f_b rfl (fun r => rfl)) ( ft_cons (f_b rfl (fun r => congrArg (fun v => some (Value.int v :: r)) (l_gt (x := ((((Int64.ofNat 8) * ((xs 1)).toInt64) + (Int64.ofNat 7)) - (Int64.ofNat 1))) (y := ((Int64.ofNat 8) * ((xs 1)).toInt64)) (by omega)))) ( ft_cons (f_b rfl (fun r => congrArg (fun v => some (Value.int v :: r)) (l_gt (x := ((((Int64.ofNat 8) * ((xs 1)).toInt64) + (Int64.ofNat 7)) - (Int64.ofNat 1))) (y := (Int64.ofNat 0)) (by have a1 : (Int64.ofNat 0).toInt = 0 := (by decide); omega)))) ( ft_cons (f_b rfl (fun r => rfl)) ( ft_cons (f_b rfl (fun r => congrArg (fun v => some (Value.int v :: r)) (l_gt (x := (((((Int64.ofNat 8) * ((xs 1)).toInt64) + (Int64.ofNat 7)) - (Int64.ofNat 1)) - (Int64.ofNat 1))) (y := ((Int64.ofNat 8) * ((xs 1)).toInt64)) (by omega)))) ( ft_cons (f_b rfl (fun r => congrArg (fun v => some (Value.int v :: r)) (l_gt (x := (((((Int64.ofNat 8) * ((xs 1)).toInt64) + (Int64.ofNat 7)) - (Int64.ofNat 1)) - (Int64.ofNat 1))) (y := (Int64.ofNat 0)) (by have a1 : (Int64.ofNat 0).toInt = 0 := (by decide); omega)))) ( ft_cons (f_b rfl (fun r => rfl)) ( ft_cons (f_b rfl (fun r => congrArg (fun v => some (Value.int v :: r)) (l_gt (x := ((((((Int64.ofNat 8) * ((xs 1)).toInt64) + (Int64.ofNat 7)) - (Int64.ofNat 1)) - (Int64.ofNat 1)) - (Int64.ofNat 1))) (y := ((Int64.ofNat 8) * ((xs 1)).toInt64)) (by omega)))) ( ft_cons (f_b rfl (fun r => congrArg (fun v => some (Value.int v :: r)) (l_gt (x := ((((((Int64.ofNat 8) * ((xs 1)).toInt64) + (Int64.ofNat 7)) - (Int64.ofNat 1)) - (Int64.ofNat 1)) - (Int64.ofNat 1))) (y := (Int64.ofNat 0)) (by have a1 : (Int64.ofNat 0).toInt = 0 := (by decide); omega)))) ( ft_cons (f_b rfl (fun r => rfl)) ( ft_cons (f_b rfl (fun r => congrArg (fun v => some (Value.int v :: r)) (l_gt (x := (((((((Int64.ofNat 8) * ((xs 1)).toInt64) + (Int64.ofNat 7)) - (Int64.ofNat 1)) - (Int64.ofNat 1)) - (Int64.ofNat 1)) - (Int64.ofNat 1))) (y := ((Int64.ofNat 8) * ((xs 1)).toInt64)) (by omega)))) ( ft_cons (f_b rfl (fun r => congrArg (fun v => some (Value.int v :: r)) (l_gt (x := (((((((Int64.ofNat 8) * ((xs 1)).toInt64) + (Int64.ofNat 7)) - (Int64.ofNat 1)) - (Int64.ofNat 1)) - (Int64.ofNat 1)) - (Int64.ofNat 1))) (y := (Int64.ofNat 0)) (by have a1 : (Int64.ofNat 0).toInt = 0 := (by decide); omega)))) ( ft_cons (f_b rfl (fun r => rfl)) ( ft_cons (f_b rfl (fun r => congrArg (fun v => some (Value.int v :: r)) (l_gt (x := ((((((((Int64.ofNat 8) * ((xs 1)).toInt64) + (Int64.ofNat 7)) - (Int64.ofNat 1)) - (Int64.ofNat 1)) - (Int64.ofNat 1)) - (Int64.ofNat 1)) - (Int64.ofNat 1))) (y := ((Int64.ofNat 8) * ((xs 1)).toInt64)) (by omega)))) ( ft_cons (f_b rfl (fun r => congrArg (fun v => some (Value.int v :: r)) (l_gt (x := ((((((((Int64.ofNat 8) * ((xs 1)).toInt64) + (Int64.ofNat 7)) - (Int64.ofNat 1)) - (Int64.ofNat 1)) - (Int64.ofNat 1)) - (Int64.ofNat 1)) - (Int64.ofNat 1))) (y := (Int64.ofNat 0)) (by have a1 : (Int64.ofNat 0).toInt = 0 := (by decide); omega)))) ( ft_cons (f_b rfl (fun r => rfl)) ( ft_cons (f_b rfl (fun r => congrArg (fun v => some (Value.int v :: r)) (l_gt (x := (((((((((Int64.ofNat 8) * ((xs 1)).toInt64) + (Int64.ofNat 7)) - (Int64.ofNat 1)) - (Int64.ofNat 1)) - (Int64.ofNat 1)) - (Int64.ofNat 1)) - (Int64.ofNat 1)) - (Int64.ofNat 1))) (y := ((Int64.ofNat 8) * ((xs 1)).toInt64)) (by omega)))) ( ft_cons (f_b rfl (fun r => congrArg (fun v => some (Value.int v :: r)) (l_gt (x := (((((((((Int64.ofNat 8) * ((xs 1)).toInt64) + (Int64.ofNat 7)) - (Int64.ofNat 1)) - (Int64.ofNat 1)) - (Int64.ofNat 1)) - (Int64.ofNat 1)) - (Int64.ofNat 1)) - (Int64.ofNat 1))) (y := (Int64.ofNat 0)) (by have a1 : (Int64.ofNat 0).toInt = 0 := (by decide); omega)))) ( ft_cons (f_b rfl (fun r => rfl)) ( ft_cons (f_b rfl (fun r => congrArg (fun v => some (Value.int v :: r)) (l_eq (x := ((((((((((Int64.ofNat 8) * ((xs 1)).toInt64) + (Int64.ofNat 7)) - (Int64.ofNat 1)) - (Int64.ofNat 1)) - (Int64.ofNat 1)) - (Int64.ofNat 1)) - (Int64.ofNat 1)) - (Int64.ofNat 1)) - (Int64.ofNat 1))) (y := ((Int64.ofNat 8) * ((xs 1)).toInt64)) (by omega)))) ( ft_cons (f_b rfl (fun r => congrArg (fun v => some (Value.int v :: r)) (l_gt (x := ((((((((((Int64.ofNat 8) * ((xs 1)).toInt64) + (Int64.ofNat 7)) - (Int64.ofNat 1)) - (Int64.ofNat 1)) - (Int64.ofNat 1)) - (Int64.ofNat 1)) - (Int64.ofNat 1)) - (Int64.ofNat 1)) - (Int64.ofNat 1))) (y := (Int64.ofNat 0)) (by have a1 : (Int64.ofNat 0).toInt = 0 := (by decide); omega)))) ( ft_cons (f_b rfl (fun r => rfl)) ( ft_cons (f_b rfl (fun r => congrArg (fun v => some (Value.int v :: r)) (l_lt (x := (((((((((((Int64.ofNat 8) * ((xs 1)).toInt64) + (Int64.ofNat 7)) - (Int64.ofNat 1)) - (Int64.ofNat 1)) - (Int64.ofNat 1)) - (Int64.ofNat 1)) - (Int64.ofNat 1)) - (Int64.ofNat 1)) - (Int64.ofNat 1)) - (Int64.ofNat 1))) (y := ((Int64.ofNat 8) * ((xs 1)).toInt64)) (by omega)))) (ft_nil)))))))))))))))))))))))))))))))))), fj_nil⟩ R_13_2
theorem cs_13 (xs : Nat → Int32) (h0 : xs 0 &&& Int32.ofNat 31 = Int32.ofNat 13) : law_at 6 xs := by
  have b1 := i32_r (xs 1)
  have b2 := i32_r (xs 2)
  have b3 := i32_r (xs 3)
  have b4 := i32_r (xs 4)
  have b5 := i32_r (xs 5)
  by_cases q0 : (xs 1).toInt < 0
  · skip
    exact rd_13_0 xs h0 (by omega)
  by_cases q1 : (xs 1).toInt < 1
  · skip
    exact rd_13_1 xs h0 (by omega)
  exact rd_13_2 xs h0 (by omega)
def F_14_0 : fa := [(301, 0, 0, 49), (300, 0, 0, 2405), (1, 2405, 249, 113), (300, 1, 0, 2413), (300, 2, 0, 2421), (202, 2413, 1, 9)]
set_option maxHeartbeats 0 in
theorem R_14_0 : fin_q (ev_rs eo0 (F_14_0, []) [6] Sa2) = true := by decide +kernel
theorem rd_14_0 (xs : Nat → Int32) (h0 : xs 0 &&& Int32.ofNat 31 = Int32.ofNat 14) (g1 : (xs 1).toInt ≤ -1) : law_at 6 xs := by
  have b1 := i32_r (xs 1)
  exact law_rd (L := 6) (xs := xs) (bt := []) (wt := []) (dt := []) (f := (F_14_0, [])) (ob_ok0 _) ⟨ft_cons (f_l rfl rfl) ( ft_cons (f_s rfl rfl rfl rfl) ( ft_cons (f_b rfl (fun r => congrArg (fun v => some (Value.int v :: r)) h0)) ( ft_cons (f_s rfl rfl rfl rfl) ( ft_cons (f_s rfl rfl rfl rfl) ( ft_cons (f_c (a := (xs 1)) (b := (Int32.ofNat 0)) rfl rfl rfl rfl (c_lt_t (by have a1 : (Int32.ofNat 0).toInt = 0 := (by decide); omega))) (ft_nil)))))), fj_nil⟩ R_14_0
def F_14_1 : fa := [(301, 0, 0, 49), (300, 0, 0, 2405), (1, 2405, 249, 113), (300, 1, 0, 2413), (300, 2, 0, 2421), (202, 2413, 1, 1)]
set_option maxHeartbeats 0 in
theorem R_14_1 : fin_q (ev_rs eo0 (F_14_1, []) [7] Sa2) = true := by decide +kernel
theorem rd_14_1 (xs : Nat → Int32) (h0 : xs 0 &&& Int32.ofNat 31 = Int32.ofNat 14) (g1 : 0 ≤ (xs 1).toInt) : law_at 6 xs := by
  have b1 := i32_r (xs 1)
  exact law_rd (L := 6) (xs := xs) (bt := []) (wt := []) (dt := []) (f := (F_14_1, [])) (ob_ok0 _) ⟨ft_cons (f_l rfl rfl) ( ft_cons (f_s rfl rfl rfl rfl) ( ft_cons (f_b rfl (fun r => congrArg (fun v => some (Value.int v :: r)) h0)) ( ft_cons (f_s rfl rfl rfl rfl) ( ft_cons (f_s rfl rfl rfl rfl) ( ft_cons (f_c (a := (xs 1)) (b := (Int32.ofNat 0)) rfl rfl rfl rfl (c_lt_f (by have a1 : (Int32.ofNat 0).toInt = 0 := (by decide); omega))) (ft_nil)))))), fj_nil⟩ R_14_1
theorem cs_14 (xs : Nat → Int32) (h0 : xs 0 &&& Int32.ofNat 31 = Int32.ofNat 14) : law_at 6 xs := by
  have b1 := i32_r (xs 1)
  have b2 := i32_r (xs 2)
  have b3 := i32_r (xs 3)
  have b4 := i32_r (xs 4)
  have b5 := i32_r (xs 5)
  by_cases q0 : (xs 1).toInt < 0
  · skip
    exact rd_14_0 xs h0 (by omega)
  exact rd_14_1 xs h0 (by omega)
def F_15_0 : fa := [(301, 0, 0, 49), (300, 0, 0, 2405), (1, 2405, 249, 121), (300, 1, 0, 2413), (202, 2413, 1, 9)]
set_option maxHeartbeats 0 in
theorem R_15_0 : fin_q (ev_rs eo0 (F_15_0, []) [7] Sa2) = true := by decide +kernel
theorem rd_15_0 (xs : Nat → Int32) (h0 : xs 0 &&& Int32.ofNat 31 = Int32.ofNat 15) (g1 : (xs 1).toInt ≤ -1) : law_at 6 xs := by
  have b1 := i32_r (xs 1)
  exact law_rd (L := 6) (xs := xs) (bt := []) (wt := []) (dt := []) (f := (F_15_0, [])) (ob_ok0 _) ⟨ft_cons (f_l rfl rfl) ( ft_cons (f_s rfl rfl rfl rfl) ( ft_cons (f_b rfl (fun r => congrArg (fun v => some (Value.int v :: r)) h0)) ( ft_cons (f_s rfl rfl rfl rfl) ( ft_cons (f_c (a := (xs 1)) (b := (Int32.ofNat 0)) rfl rfl rfl rfl (c_lt_t (by have a1 : (Int32.ofNat 0).toInt = 0 := (by decide); omega))) (ft_nil))))), fj_nil⟩ R_15_0
def F_15_1 : fa := [(301, 0, 0, 49), (300, 0, 0, 2405), (1, 2405, 249, 121), (300, 1, 0, 1)]
set_option maxHeartbeats 0 in
theorem R_15_1 : fin_q (ev_rs eo0 (F_15_1, []) [8] Sa2) = true := by decide +kernel
theorem rd_15_1 (xs : Nat → Int32) (h0 : xs 0 &&& Int32.ofNat 31 = Int32.ofNat 15) (g1 : (xs 1).toInt = 0) : law_at 6 xs := by
  have e1 : xs 1 = (Int32.ofNat 0) := i32_eq (by rw [g1]; decide)
  have b1 := i32_r (xs 1)
  exact law_rd (L := 6) (xs := xs) (bt := []) (wt := []) (dt := []) (f := (F_15_1, [])) (ob_ok0 _) ⟨ft_cons (f_l rfl rfl) ( ft_cons (f_s rfl rfl rfl rfl) ( ft_cons (f_b rfl (fun r => congrArg (fun v => some (Value.int v :: r)) h0)) ( ft_cons (f_s rfl rfl rfl (congrArg Value.int e1)) (ft_nil)))), fj_nil⟩ R_15_1
def F_15_2 : fa := [(301, 0, 0, 49), (300, 0, 0, 2405), (1, 2405, 249, 121), (300, 1, 0, 2413), (202, 2413, 1, 1), (205, 2413, 1, 1)]
set_option maxHeartbeats 0 in
theorem R_15_2 : fin_q (ev_rs eo0 (F_15_2, []) [7] Sa2) = true := by decide +kernel
theorem rd_15_2 (xs : Nat → Int32) (h0 : xs 0 &&& Int32.ofNat 31 = Int32.ofNat 15) (g1 : 1 ≤ (xs 1).toInt) : law_at 6 xs := by
  have b1 := i32_r (xs 1)
  exact law_rd (L := 6) (xs := xs) (bt := []) (wt := []) (dt := []) (f := (F_15_2, [])) (ob_ok0 _) ⟨ft_cons (f_l rfl rfl) ( ft_cons (f_s rfl rfl rfl rfl) ( ft_cons (f_b rfl (fun r => congrArg (fun v => some (Value.int v :: r)) h0)) ( ft_cons (f_s rfl rfl rfl rfl) ( ft_cons (f_c (a := (xs 1)) (b := (Int32.ofNat 0)) rfl rfl rfl rfl (c_lt_f (by have a1 : (Int32.ofNat 0).toInt = 0 := (by decide); omega))) ( ft_cons (f_c (a := (xs 1)) (b := (Int32.ofNat 0)) rfl rfl rfl rfl (c_le_f (by have a1 : (Int32.ofNat 0).toInt = 0 := (by decide); omega))) (ft_nil)))))), fj_nil⟩ R_15_2
theorem cs_15 (xs : Nat → Int32) (h0 : xs 0 &&& Int32.ofNat 31 = Int32.ofNat 15) : law_at 6 xs := by
  have b1 := i32_r (xs 1)
  have b2 := i32_r (xs 2)
  have b3 := i32_r (xs 3)
  have b4 := i32_r (xs 4)
  have b5 := i32_r (xs 5)
  by_cases q0 : (xs 1).toInt < 0
  · skip
    exact rd_15_0 xs h0 (by omega)
  by_cases q1 : (xs 1).toInt < 1
  · skip
    exact rd_15_1 xs h0 (by omega)
  exact rd_15_2 xs h0 (by omega)
def F_16_0 : fa := [(301, 0, 0, 49), (300, 0, 0, 2405), (1, 2405, 249, 129)]
set_option maxHeartbeats 0 in
theorem R_16_0 : fin_q (ev_rs eo0 (F_16_0, []) [7] Sa2) = true := by decide +kernel
theorem rd_16_0 (xs : Nat → Int32) (h0 : xs 0 &&& Int32.ofNat 31 = Int32.ofNat 16) : law_at 6 xs := by
  exact law_rd (L := 6) (xs := xs) (bt := []) (wt := []) (dt := []) (f := (F_16_0, [])) (ob_ok0 _) ⟨ft_cons (f_l rfl rfl) ( ft_cons (f_s rfl rfl rfl rfl) ( ft_cons (f_b rfl (fun r => congrArg (fun v => some (Value.int v :: r)) h0)) (ft_nil))), fj_nil⟩ R_16_0
theorem cs_16 (xs : Nat → Int32) (h0 : xs 0 &&& Int32.ofNat 31 = Int32.ofNat 16) : law_at 6 xs := by
  have b1 := i32_r (xs 1)
  have b2 := i32_r (xs 2)
  have b3 := i32_r (xs 3)
  have b4 := i32_r (xs 4)
  have b5 := i32_r (xs 5)
  exact rd_16_0 xs h0 
def F_17_0 : fa := [(301, 0, 0, 49), (300, 0, 0, 2405), (1, 2405, 249, 137), (300, 1, 0, 2413)]
set_option maxHeartbeats 0 in
theorem R_17_0 : fin_q (ev_rs eo0 (F_17_0, []) [7] Sa2) = true := by decide +kernel
theorem rd_17_0 (xs : Nat → Int32) (h0 : xs 0 &&& Int32.ofNat 31 = Int32.ofNat 17) : law_at 6 xs := by
  exact law_rd (L := 6) (xs := xs) (bt := []) (wt := []) (dt := []) (f := (F_17_0, [])) (ob_ok0 _) ⟨ft_cons (f_l rfl rfl) ( ft_cons (f_s rfl rfl rfl rfl) ( ft_cons (f_b rfl (fun r => congrArg (fun v => some (Value.int v :: r)) h0)) ( ft_cons (f_s rfl rfl rfl rfl) (ft_nil)))), fj_nil⟩ R_17_0
theorem cs_17 (xs : Nat → Int32) (h0 : xs 0 &&& Int32.ofNat 31 = Int32.ofNat 17) : law_at 6 xs := by
  have b1 := i32_r (xs 1)
  have b2 := i32_r (xs 2)
  have b3 := i32_r (xs 3)
  have b4 := i32_r (xs 4)
  have b5 := i32_r (xs 5)
  exact rd_17_0 xs h0 
def F_18_0 : fa := [(301, 0, 0, 49), (300, 0, 0, 2405), (1, 2405, 249, 145), (300, 1, 0, 2413), (300, 2, 0, 2421)]
set_option maxHeartbeats 0 in
theorem R_18_0 : fin_q (ev_rs eo0 (F_18_0, []) [7] Sa2) = true := by decide +kernel
theorem rd_18_0 (xs : Nat → Int32) (h0 : xs 0 &&& Int32.ofNat 31 = Int32.ofNat 18) : law_at 6 xs := by
  exact law_rd (L := 6) (xs := xs) (bt := []) (wt := []) (dt := []) (f := (F_18_0, [])) (ob_ok0 _) ⟨ft_cons (f_l rfl rfl) ( ft_cons (f_s rfl rfl rfl rfl) ( ft_cons (f_b rfl (fun r => congrArg (fun v => some (Value.int v :: r)) h0)) ( ft_cons (f_s rfl rfl rfl rfl) ( ft_cons (f_s rfl rfl rfl rfl) (ft_nil))))), fj_nil⟩ R_18_0
theorem cs_18 (xs : Nat → Int32) (h0 : xs 0 &&& Int32.ofNat 31 = Int32.ofNat 18) : law_at 6 xs := by
  have b1 := i32_r (xs 1)
  have b2 := i32_r (xs 2)
  have b3 := i32_r (xs 3)
  have b4 := i32_r (xs 4)
  have b5 := i32_r (xs 5)
  exact rd_18_0 xs h0 
def F_19_0 : fa := [(301, 0, 0, 49), (300, 0, 0, 2405), (1, 2405, 249, 153), (300, 1, 0, 2413), (300, 2, 0, 2421)]
set_option maxHeartbeats 0 in
theorem R_19_0 : fin_q (ev_rs eo0 (F_19_0, []) [7] Sa2) = true := by decide +kernel
theorem rd_19_0 (xs : Nat → Int32) (h0 : xs 0 &&& Int32.ofNat 31 = Int32.ofNat 19) : law_at 6 xs := by
  exact law_rd (L := 6) (xs := xs) (bt := []) (wt := []) (dt := []) (f := (F_19_0, [])) (ob_ok0 _) ⟨ft_cons (f_l rfl rfl) ( ft_cons (f_s rfl rfl rfl rfl) ( ft_cons (f_b rfl (fun r => congrArg (fun v => some (Value.int v :: r)) h0)) ( ft_cons (f_s rfl rfl rfl rfl) ( ft_cons (f_s rfl rfl rfl rfl) (ft_nil))))), fj_nil⟩ R_19_0
theorem cs_19 (xs : Nat → Int32) (h0 : xs 0 &&& Int32.ofNat 31 = Int32.ofNat 19) : law_at 6 xs := by
  have b1 := i32_r (xs 1)
  have b2 := i32_r (xs 2)
  have b3 := i32_r (xs 3)
  have b4 := i32_r (xs 4)
  have b5 := i32_r (xs 5)
  exact rd_19_0 xs h0 
def F_20_0 : fa := [(301, 0, 0, 49), (300, 0, 0, 2405), (1, 2405, 249, 161), (300, 1, 0, 2413), (300, 2, 0, 2421), (41, 2421, 0, 14), (9, 14, 257, 22), (300, 3, 0, 2429), (41, 2429, 0, 30), (10, 30, 34359738362, 38), (11, 22, 38, 46), (300, 4, 0, 2437)]
set_option maxHeartbeats 0 in
theorem R_20_0 : fin_q (ev_rs eo0 (F_20_0, []) [7] Sa2) = true := by decide +kernel
theorem rd_20_0 (xs : Nat → Int32) (h0 : xs 0 &&& Int32.ofNat 31 = Int32.ofNat 20) : law_at 6 xs := by
  exact law_rd (L := 6) (xs := xs) (bt := []) (wt := []) (dt := [((xs 2)).toInt64, (((xs 2)).toInt64 <<< (((Int32.ofNat 32)).toInt64 &&& 63)), ((xs 3)).toInt64, (((xs 3)).toInt64 &&& (Int64.ofNat 4294967295)), ((((xs 2)).toInt64 <<< (((Int32.ofNat 32)).toInt64 &&& 63)) ||| (((xs 3)).toInt64 &&& (Int64.ofNat 4294967295)))]) (f := (F_20_0, [])) (ob_ok0 _) ⟨ft_cons (f_l rfl rfl) ( ft_cons (f_s rfl rfl rfl rfl) ( ft_cons (f_b rfl (fun r => congrArg (fun v => some (Value.int v :: r)) h0)) ( ft_cons (f_s rfl rfl rfl rfl) ( ft_cons (f_s rfl rfl rfl rfl) ( ft_cons (f_u rfl rfl (fun r => rfl)) ( ft_cons (f_b rfl (fun r => rfl)) ( ft_cons (f_s rfl rfl rfl rfl) ( ft_cons (f_u rfl rfl (fun r => rfl)) ( ft_cons (f_b rfl (fun r => rfl)) ( ft_cons (f_b rfl (fun r => rfl)) ( ft_cons (f_s rfl rfl rfl rfl) (ft_nil)))))))))))), fj_nil⟩ R_20_0
theorem cs_20 (xs : Nat → Int32) (h0 : xs 0 &&& Int32.ofNat 31 = Int32.ofNat 20) : law_at 6 xs := by
  have b1 := i32_r (xs 1)
  have b2 := i32_r (xs 2)
  have b3 := i32_r (xs 3)
  have b4 := i32_r (xs 4)
  have b5 := i32_r (xs 5)
  exact rd_20_0 xs h0 
def F_21_0 : fa := [(301, 0, 0, 49), (300, 0, 0, 2405), (1, 2405, 249, 169), (300, 1, 0, 2413)]
set_option maxHeartbeats 0 in
theorem R_21_0 : fin_q (ev_rs eo0 (F_21_0, []) [6] Sa2) = true := by decide +kernel
theorem rd_21_0 (xs : Nat → Int32) (h0 : xs 0 &&& Int32.ofNat 31 = Int32.ofNat 21) : law_at 6 xs := by
  exact law_rd (L := 6) (xs := xs) (bt := []) (wt := []) (dt := []) (f := (F_21_0, [])) (ob_ok0 _) ⟨ft_cons (f_l rfl rfl) ( ft_cons (f_s rfl rfl rfl rfl) ( ft_cons (f_b rfl (fun r => congrArg (fun v => some (Value.int v :: r)) h0)) ( ft_cons (f_s rfl rfl rfl rfl) (ft_nil)))), fj_nil⟩ R_21_0
theorem cs_21 (xs : Nat → Int32) (h0 : xs 0 &&& Int32.ofNat 31 = Int32.ofNat 21) : law_at 6 xs := by
  have b1 := i32_r (xs 1)
  have b2 := i32_r (xs 2)
  have b3 := i32_r (xs 3)
  have b4 := i32_r (xs 4)
  have b5 := i32_r (xs 5)
  exact rd_21_0 xs h0 
def F_22_0 : fa := [(301, 0, 0, 49), (300, 0, 0, 2405), (1, 2405, 249, 177), (300, 1, 0, 2413)]
set_option maxHeartbeats 0 in
theorem R_22_0 : fin_q (ev_rs eo0 (F_22_0, []) [6] Sa2) = true := by decide +kernel
theorem rd_22_0 (xs : Nat → Int32) (h0 : xs 0 &&& Int32.ofNat 31 = Int32.ofNat 22) : law_at 6 xs := by
  exact law_rd (L := 6) (xs := xs) (bt := []) (wt := []) (dt := []) (f := (F_22_0, [])) (ob_ok0 _) ⟨ft_cons (f_l rfl rfl) ( ft_cons (f_s rfl rfl rfl rfl) ( ft_cons (f_b rfl (fun r => congrArg (fun v => some (Value.int v :: r)) h0)) ( ft_cons (f_s rfl rfl rfl rfl) (ft_nil)))), fj_nil⟩ R_22_0
theorem cs_22 (xs : Nat → Int32) (h0 : xs 0 &&& Int32.ofNat 31 = Int32.ofNat 22) : law_at 6 xs := by
  have b1 := i32_r (xs 1)
  have b2 := i32_r (xs 2)
  have b3 := i32_r (xs 3)
  have b4 := i32_r (xs 4)
  have b5 := i32_r (xs 5)
  exact rd_22_0 xs h0 
def F_23_0 : fa := [(301, 0, 0, 49), (300, 0, 0, 2405), (1, 2405, 249, 185)]
set_option maxHeartbeats 0 in
theorem R_23_0 : fin_q (ev_rs eo0 (F_23_0, []) [5] Sa2) = true := by decide +kernel
theorem rd_23_0 (xs : Nat → Int32) (h0 : xs 0 &&& Int32.ofNat 31 = Int32.ofNat 23) : law_at 6 xs := by
  exact law_rd (L := 6) (xs := xs) (bt := []) (wt := []) (dt := []) (f := (F_23_0, [])) (ob_ok0 _) ⟨ft_cons (f_l rfl rfl) ( ft_cons (f_s rfl rfl rfl rfl) ( ft_cons (f_b rfl (fun r => congrArg (fun v => some (Value.int v :: r)) h0)) (ft_nil))), fj_nil⟩ R_23_0
theorem cs_23 (xs : Nat → Int32) (h0 : xs 0 &&& Int32.ofNat 31 = Int32.ofNat 23) : law_at 6 xs := by
  have b1 := i32_r (xs 1)
  have b2 := i32_r (xs 2)
  have b3 := i32_r (xs 3)
  have b4 := i32_r (xs 4)
  have b5 := i32_r (xs 5)
  exact rd_23_0 xs h0 
def F_24_0 : fa := [(301, 0, 0, 49), (300, 0, 0, 2405), (1, 2405, 249, 193)]
set_option maxHeartbeats 0 in
theorem R_24_0 : fin_q (ev_rs eo0 (F_24_0, []) [5] Sa2) = true := by decide +kernel
theorem rd_24_0 (xs : Nat → Int32) (h0 : xs 0 &&& Int32.ofNat 31 = Int32.ofNat 24) : law_at 6 xs := by
  exact law_rd (L := 6) (xs := xs) (bt := []) (wt := []) (dt := []) (f := (F_24_0, [])) (ob_ok0 _) ⟨ft_cons (f_l rfl rfl) ( ft_cons (f_s rfl rfl rfl rfl) ( ft_cons (f_b rfl (fun r => congrArg (fun v => some (Value.int v :: r)) h0)) (ft_nil))), fj_nil⟩ R_24_0
theorem cs_24 (xs : Nat → Int32) (h0 : xs 0 &&& Int32.ofNat 31 = Int32.ofNat 24) : law_at 6 xs := by
  have b1 := i32_r (xs 1)
  have b2 := i32_r (xs 2)
  have b3 := i32_r (xs 3)
  have b4 := i32_r (xs 4)
  have b5 := i32_r (xs 5)
  exact rd_24_0 xs h0 
def F_25_0 : fa := [(301, 0, 0, 49), (300, 0, 0, 2405), (1, 2405, 249, 201)]
set_option maxHeartbeats 0 in
theorem R_25_0 : fin_q (ev_rs eo0 (F_25_0, []) [5] Sa2) = true := by decide +kernel
theorem rd_25_0 (xs : Nat → Int32) (h0 : xs 0 &&& Int32.ofNat 31 = Int32.ofNat 25) : law_at 6 xs := by
  exact law_rd (L := 6) (xs := xs) (bt := []) (wt := []) (dt := []) (f := (F_25_0, [])) (ob_ok0 _) ⟨ft_cons (f_l rfl rfl) ( ft_cons (f_s rfl rfl rfl rfl) ( ft_cons (f_b rfl (fun r => congrArg (fun v => some (Value.int v :: r)) h0)) (ft_nil))), fj_nil⟩ R_25_0
theorem cs_25 (xs : Nat → Int32) (h0 : xs 0 &&& Int32.ofNat 31 = Int32.ofNat 25) : law_at 6 xs := by
  have b1 := i32_r (xs 1)
  have b2 := i32_r (xs 2)
  have b3 := i32_r (xs 3)
  have b4 := i32_r (xs 4)
  have b5 := i32_r (xs 5)
  exact rd_25_0 xs h0 
def F_26_0 : fa := [(301, 0, 0, 49), (300, 0, 0, 2405), (1, 2405, 249, 209)]
set_option maxHeartbeats 0 in
theorem R_26_0 : fin_q (ev_rs eo0 (F_26_0, []) [5] Sa2) = true := by decide +kernel
theorem rd_26_0 (xs : Nat → Int32) (h0 : xs 0 &&& Int32.ofNat 31 = Int32.ofNat 26) : law_at 6 xs := by
  exact law_rd (L := 6) (xs := xs) (bt := []) (wt := []) (dt := []) (f := (F_26_0, [])) (ob_ok0 _) ⟨ft_cons (f_l rfl rfl) ( ft_cons (f_s rfl rfl rfl rfl) ( ft_cons (f_b rfl (fun r => congrArg (fun v => some (Value.int v :: r)) h0)) (ft_nil))), fj_nil⟩ R_26_0
theorem cs_26 (xs : Nat → Int32) (h0 : xs 0 &&& Int32.ofNat 31 = Int32.ofNat 26) : law_at 6 xs := by
  have b1 := i32_r (xs 1)
  have b2 := i32_r (xs 2)
  have b3 := i32_r (xs 3)
  have b4 := i32_r (xs 4)
  have b5 := i32_r (xs 5)
  exact rd_26_0 xs h0 
def F_27_0 : fa := [(301, 0, 0, 49), (300, 0, 0, 2405), (1, 2405, 249, 217)]
set_option maxHeartbeats 0 in
theorem R_27_0 : fin_q (ev_rs eo0 (F_27_0, []) [5] Sa2) = true := by decide +kernel
theorem rd_27_0 (xs : Nat → Int32) (h0 : xs 0 &&& Int32.ofNat 31 = Int32.ofNat 27) : law_at 6 xs := by
  exact law_rd (L := 6) (xs := xs) (bt := []) (wt := []) (dt := []) (f := (F_27_0, [])) (ob_ok0 _) ⟨ft_cons (f_l rfl rfl) ( ft_cons (f_s rfl rfl rfl rfl) ( ft_cons (f_b rfl (fun r => congrArg (fun v => some (Value.int v :: r)) h0)) (ft_nil))), fj_nil⟩ R_27_0
theorem cs_27 (xs : Nat → Int32) (h0 : xs 0 &&& Int32.ofNat 31 = Int32.ofNat 27) : law_at 6 xs := by
  have b1 := i32_r (xs 1)
  have b2 := i32_r (xs 2)
  have b3 := i32_r (xs 3)
  have b4 := i32_r (xs 4)
  have b5 := i32_r (xs 5)
  exact rd_27_0 xs h0 
def F_28_0 : fa := [(301, 0, 0, 49), (300, 0, 0, 2405), (1, 2405, 249, 225)]
set_option maxHeartbeats 0 in
theorem R_28_0 : fin_q (ev_rs eo0 (F_28_0, []) [5] Sa2) = true := by decide +kernel
theorem rd_28_0 (xs : Nat → Int32) (h0 : xs 0 &&& Int32.ofNat 31 = Int32.ofNat 28) : law_at 6 xs := by
  exact law_rd (L := 6) (xs := xs) (bt := []) (wt := []) (dt := []) (f := (F_28_0, [])) (ob_ok0 _) ⟨ft_cons (f_l rfl rfl) ( ft_cons (f_s rfl rfl rfl rfl) ( ft_cons (f_b rfl (fun r => congrArg (fun v => some (Value.int v :: r)) h0)) (ft_nil))), fj_nil⟩ R_28_0
theorem cs_28 (xs : Nat → Int32) (h0 : xs 0 &&& Int32.ofNat 31 = Int32.ofNat 28) : law_at 6 xs := by
  have b1 := i32_r (xs 1)
  have b2 := i32_r (xs 2)
  have b3 := i32_r (xs 3)
  have b4 := i32_r (xs 4)
  have b5 := i32_r (xs 5)
  exact rd_28_0 xs h0 
def F_29_0 : fa := [(301, 0, 0, 49), (300, 0, 0, 2405), (1, 2405, 249, 233)]
set_option maxHeartbeats 0 in
theorem R_29_0 : fin_q (ev_rs eo0 (F_29_0, []) [5] Sa2) = true := by decide +kernel
theorem rd_29_0 (xs : Nat → Int32) (h0 : xs 0 &&& Int32.ofNat 31 = Int32.ofNat 29) : law_at 6 xs := by
  exact law_rd (L := 6) (xs := xs) (bt := []) (wt := []) (dt := []) (f := (F_29_0, [])) (ob_ok0 _) ⟨ft_cons (f_l rfl rfl) ( ft_cons (f_s rfl rfl rfl rfl) ( ft_cons (f_b rfl (fun r => congrArg (fun v => some (Value.int v :: r)) h0)) (ft_nil))), fj_nil⟩ R_29_0
theorem cs_29 (xs : Nat → Int32) (h0 : xs 0 &&& Int32.ofNat 31 = Int32.ofNat 29) : law_at 6 xs := by
  have b1 := i32_r (xs 1)
  have b2 := i32_r (xs 2)
  have b3 := i32_r (xs 3)
  have b4 := i32_r (xs 4)
  have b5 := i32_r (xs 5)
  exact rd_29_0 xs h0 
def F_30_0 : fa := [(301, 0, 0, 49), (300, 0, 0, 2405), (1, 2405, 249, 241)]
set_option maxHeartbeats 0 in
theorem R_30_0 : fin_q (ev_rs eo0 (F_30_0, []) [5] Sa2) = true := by decide +kernel
theorem rd_30_0 (xs : Nat → Int32) (h0 : xs 0 &&& Int32.ofNat 31 = Int32.ofNat 30) : law_at 6 xs := by
  exact law_rd (L := 6) (xs := xs) (bt := []) (wt := []) (dt := []) (f := (F_30_0, [])) (ob_ok0 _) ⟨ft_cons (f_l rfl rfl) ( ft_cons (f_s rfl rfl rfl rfl) ( ft_cons (f_b rfl (fun r => congrArg (fun v => some (Value.int v :: r)) h0)) (ft_nil))), fj_nil⟩ R_30_0
theorem cs_30 (xs : Nat → Int32) (h0 : xs 0 &&& Int32.ofNat 31 = Int32.ofNat 30) : law_at 6 xs := by
  have b1 := i32_r (xs 1)
  have b2 := i32_r (xs 2)
  have b3 := i32_r (xs 3)
  have b4 := i32_r (xs 4)
  have b5 := i32_r (xs 5)
  exact rd_30_0 xs h0 
def F_31_0 : fa := [(301, 0, 0, 49), (300, 0, 0, 2405), (1, 2405, 249, 249)]
set_option maxHeartbeats 0 in
theorem R_31_0 : fin_q (ev_rs eo0 (F_31_0, []) [5] Sa2) = true := by decide +kernel
theorem rd_31_0 (xs : Nat → Int32) (h0 : xs 0 &&& Int32.ofNat 31 = Int32.ofNat 31) : law_at 6 xs := by
  exact law_rd (L := 6) (xs := xs) (bt := []) (wt := []) (dt := []) (f := (F_31_0, [])) (ob_ok0 _) ⟨ft_cons (f_l rfl rfl) ( ft_cons (f_s rfl rfl rfl rfl) ( ft_cons (f_b rfl (fun r => congrArg (fun v => some (Value.int v :: r)) h0)) (ft_nil))), fj_nil⟩ R_31_0
theorem cs_31 (xs : Nat → Int32) (h0 : xs 0 &&& Int32.ofNat 31 = Int32.ofNat 31) : law_at 6 xs := by
  have b1 := i32_r (xs 1)
  have b2 := i32_r (xs 2)
  have b3 := i32_r (xs 3)
  have b4 := i32_r (xs 4)
  have b5 := i32_r (xs 5)
  exact rd_31_0 xs h0 
