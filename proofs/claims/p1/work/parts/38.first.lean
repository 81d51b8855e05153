/-! one call on fresh objects -/
theorem fz_all (xs : Nat → Int32) (h0 : xs 0 &&& Int32.ofNat 31 = Int32.ofNat 10) (g1 : 12 ≤ (xs 1).toInt ∧ (xs 1).toInt ≤ 16) (g2 : 0 ≤ (xs 2).toInt ∧ (xs 2).toInt ≤ 15) : law_at 6 xs := by
  have c1 : (xs 1).toInt = 12 ∨ (xs 1).toInt = 13 ∨ (xs 1).toInt = 14 ∨ (xs 1).toInt = 15 ∨ (xs 1).toInt = 16 := by omega
  have c2 : (xs 2).toInt = 0 ∨ (xs 2).toInt = 1 ∨ (xs 2).toInt = 2 ∨ (xs 2).toInt = 3 ∨ (xs 2).toInt = 4 ∨ (xs 2).toInt = 5 ∨ (xs 2).toInt = 6 ∨ (xs 2).toInt = 7 ∨ (xs 2).toInt = 8 ∨ (xs 2).toInt = 9 ∨ (xs 2).toInt = 10 ∨ (xs 2).toInt = 11 ∨ (xs 2).toInt = 12 ∨ (xs 2).toInt = 13 ∨ (xs 2).toInt = 14 ∨ (xs 2).toInt = 15 := by omega
  have w0 : (xs 2).toInt = 0 → xs 2 = Int32.ofNat 0 := fun q => i32_eq (by rw [q]; decide)
  have w1 : (xs 2).toInt = 1 → xs 2 = Int32.ofNat 1 := fun q => i32_eq (by rw [q]; decide)
  have w2 : (xs 2).toInt = 2 → xs 2 = Int32.ofNat 2 := fun q => i32_eq (by rw [q]; decide)
  have w3 : (xs 2).toInt = 3 → xs 2 = Int32.ofNat 3 := fun q => i32_eq (by rw [q]; decide)
  have w4 : (xs 2).toInt = 4 → xs 2 = Int32.ofNat 4 := fun q => i32_eq (by rw [q]; decide)
  have w5 : (xs 2).toInt = 5 → xs 2 = Int32.ofNat 5 := fun q => i32_eq (by rw [q]; decide)
  have w6 : (xs 2).toInt = 6 → xs 2 = Int32.ofNat 6 := fun q => i32_eq (by rw [q]; decide)
  have w7 : (xs 2).toInt = 7 → xs 2 = Int32.ofNat 7 := fun q => i32_eq (by rw [q]; decide)
  have w8 : (xs 2).toInt = 8 → xs 2 = Int32.ofNat 8 := fun q => i32_eq (by rw [q]; decide)
  have w9 : (xs 2).toInt = 9 → xs 2 = Int32.ofNat 9 := fun q => i32_eq (by rw [q]; decide)
  have w10 : (xs 2).toInt = 10 → xs 2 = Int32.ofNat 10 := fun q => i32_eq (by rw [q]; decide)
  have w11 : (xs 2).toInt = 11 → xs 2 = Int32.ofNat 11 := fun q => i32_eq (by rw [q]; decide)
  have w12 : (xs 2).toInt = 12 → xs 2 = Int32.ofNat 12 := fun q => i32_eq (by rw [q]; decide)
  have w13 : (xs 2).toInt = 13 → xs 2 = Int32.ofNat 13 := fun q => i32_eq (by rw [q]; decide)
  have w14 : (xs 2).toInt = 14 → xs 2 = Int32.ofNat 14 := fun q => i32_eq (by rw [q]; decide)
  have w15 : (xs 2).toInt = 15 → xs 2 = Int32.ofNat 15 := fun q => i32_eq (by rw [q]; decide)
  rcases c1 with a | a | a | a | a
  · have e1 : xs 1 = Int32.ofNat 12 := i32_eq (by rw [a]; decide)
    rcases c2 with b | b | b | b | b | b | b | b | b | b | b | b | b | b | b | b
    · exact fz_12_0 xs h0 e1 (w0 b)
    · exact fz_12_1 xs h0 e1 (w1 b)
    · exact fz_12_2 xs h0 e1 (w2 b)
    · exact fz_12_3 xs h0 e1 (w3 b)
    · exact fz_12_4 xs h0 e1 (w4 b)
    · exact fz_12_5 xs h0 e1 (w5 b)
    · exact fz_12_6 xs h0 e1 (w6 b)
    · exact fz_12_7 xs h0 e1 (w7 b)
    · exact fz_12_8 xs h0 e1 (w8 b)
    · exact fz_12_9 xs h0 e1 (w9 b)
    · exact fz_12_10 xs h0 e1 (w10 b)
    · exact fz_12_11 xs h0 e1 (w11 b)
    · exact fz_12_12 xs h0 e1 (w12 b)
    · exact fz_12_13 xs h0 e1 (w13 b)
    · exact fz_12_14 xs h0 e1 (w14 b)
    · exact fz_12_15 xs h0 e1 (w15 b)
  · have e1 : xs 1 = Int32.ofNat 13 := i32_eq (by rw [a]; decide)
    rcases c2 with b | b | b | b | b | b | b | b | b | b | b | b | b | b | b | b
    · exact fz_13_0 xs h0 e1 (w0 b)
    · exact fz_13_1 xs h0 e1 (w1 b)
    · exact fz_13_2 xs h0 e1 (w2 b)
    · exact fz_13_3 xs h0 e1 (w3 b)
    · exact fz_13_4 xs h0 e1 (w4 b)
    · exact fz_13_5 xs h0 e1 (w5 b)
    · exact fz_13_6 xs h0 e1 (w6 b)
    · exact fz_13_7 xs h0 e1 (w7 b)
    · exact fz_13_8 xs h0 e1 (w8 b)
    · exact fz_13_9 xs h0 e1 (w9 b)
    · exact fz_13_10 xs h0 e1 (w10 b)
    · exact fz_13_11 xs h0 e1 (w11 b)
    · exact fz_13_12 xs h0 e1 (w12 b)
    · exact fz_13_13 xs h0 e1 (w13 b)
    · exact fz_13_14 xs h0 e1 (w14 b)
    · exact fz_13_15 xs h0 e1 (w15 b)
  · have e1 : xs 1 = Int32.ofNat 14 := i32_eq (by rw [a]; decide)
    rcases c2 with b | b | b | b | b | b | b | b | b | b | b | b | b | b | b | b
    · exact fz_14_0 xs h0 e1 (w0 b)
    · exact fz_14_1 xs h0 e1 (w1 b)
    · exact fz_14_2 xs h0 e1 (w2 b)
    · exact fz_14_3 xs h0 e1 (w3 b)
    · exact fz_14_4 xs h0 e1 (w4 b)
    · exact fz_14_5 xs h0 e1 (w5 b)
    · exact fz_14_6 xs h0 e1 (w6 b)
    · exact fz_14_7 xs h0 e1 (w7 b)
    · exact fz_14_8 xs h0 e1 (w8 b)
    · exact fz_14_9 xs h0 e1 (w9 b)
    · exact fz_14_10 xs h0 e1 (w10 b)
    · exact fz_14_11 xs h0 e1 (w11 b)
    · exact fz_14_12 xs h0 e1 (w12 b)
    · exact fz_14_13 xs h0 e1 (w13 b)
    · exact fz_14_14 xs h0 e1 (w14 b)
    · exact fz_14_15 xs h0 e1 (w15 b)
  · have e1 : xs 1 = Int32.ofNat 15 := i32_eq (by rw [a]; decide)
    rcases c2 with b | b | b | b | b | b | b | b | b | b | b | b | b | b | b | b
    · exact fz_15_0 xs h0 e1 (w0 b)
    · exact fz_15_1 xs h0 e1 (w1 b)
    · exact fz_15_2 xs h0 e1 (w2 b)
    · exact fz_15_3 xs h0 e1 (w3 b)
    · exact fz_15_4 xs h0 e1 (w4 b)
    · exact fz_15_5 xs h0 e1 (w5 b)
    · exact fz_15_6 xs h0 e1 (w6 b)
    · exact fz_15_7 xs h0 e1 (w7 b)
    · exact fz_15_8 xs h0 e1 (w8 b)
    · exact fz_15_9 xs h0 e1 (w9 b)
    · exact fz_15_10 xs h0 e1 (w10 b)
    · exact fz_15_11 xs h0 e1 (w11 b)
    · exact fz_15_12 xs h0 e1 (w12 b)
    · exact fz_15_13 xs h0 e1 (w13 b)
    · exact fz_15_14 xs h0 e1 (w14 b)
    · exact fz_15_15 xs h0 e1 (w15 b)
  · have e1 : xs 1 = Int32.ofNat 16 := i32_eq (by rw [a]; decide)
    rcases c2 with b | b | b | b | b | b | b | b | b | b | b | b | b | b | b | b
    · exact fz_16_0 xs h0 e1 (w0 b)
    · exact fz_16_1 xs h0 e1 (w1 b)
    · exact fz_16_2 xs h0 e1 (w2 b)
    · exact fz_16_3 xs h0 e1 (w3 b)
    · exact fz_16_4 xs h0 e1 (w4 b)
    · exact fz_16_5 xs h0 e1 (w5 b)
    · exact fz_16_6 xs h0 e1 (w6 b)
    · exact fz_16_7 xs h0 e1 (w7 b)
    · exact fz_16_8 xs h0 e1 (w8 b)
    · exact fz_16_9 xs h0 e1 (w9 b)
    · exact fz_16_10 xs h0 e1 (w10 b)
    · exact fz_16_11 xs h0 e1 (w11 b)
    · exact fz_16_12 xs h0 e1 (w12 b)
    · exact fz_16_13 xs h0 e1 (w13 b)
    · exact fz_16_14 xs h0 e1 (w14 b)
    · exact fz_16_15 xs h0 e1 (w15 b)
def F_10_0 : fa := [(301, 0, 0, 49), (300, 0, 0, 2405), (1, 2405, 249, 81), (300, 1, 0, 2413), (300, 2, 0, 2421), (300, 3, 0, 2429), (202, 2413, 97, 9)]
set_option maxHeartbeats 0 in
theorem R_10_0 : fin_q (ev_rs eo0 (F_10_0, []) [7] Sa2) = true := by decide +kernel
theorem rd_10_0 (xs : Nat → Int32) (h0 : xs 0 &&& Int32.ofNat 31 = Int32.ofNat 10) (g1 : (xs 1).toInt ≤ 11) : law_at 6 xs := by
  have b1 := i32_r (xs 1)
  exact law_rd (L := 6) (xs := xs) (bt := []) (wt := []) (dt := []) (f := (F_10_0, [])) (ob_ok0 _) ⟨ft_cons (f_l rfl rfl) ( ft_cons (f_s rfl rfl rfl rfl) ( ft_cons (f_b rfl (fun r => congrArg (fun v => some (Value.int v :: r)) h0)) ( ft_cons (f_s rfl rfl rfl rfl) ( ft_cons (f_s rfl rfl rfl rfl) ( ft_cons (f_s rfl rfl rfl rfl) ( ft_cons (f_c (a := (xs 1)) (b := (Int32.ofNat 12)) rfl rfl rfl rfl (c_lt_t (by have a1 : (Int32.ofNat 12).toInt = 12 := (by decide); omega))) (ft_nil))))))), fj_nil⟩ R_10_0
def F_10_1 : fa := [(301, 0, 0, 49), (300, 0, 0, 2405), (1, 2405, 249, 81), (300, 1, 0, 2413), (300, 2, 0, 2421), (300, 3, 0, 2429), (202, 2413, 97, 1), (204, 2413, 129, 1), (202, 2421, 1, 9)]
set_option maxHeartbeats 0 in
theorem R_10_1 : fin_q (ev_rs eo0 (F_10_1, []) [7] Sa2) = true := by decide +kernel
theorem rd_10_1 (xs : Nat → Int32) (h0 : xs 0 &&& Int32.ofNat 31 = Int32.ofNat 10) (g1 : 12 ≤ (xs 1).toInt ∧ (xs 1).toInt ≤ 16) (g2 : (xs 2).toInt ≤ -1) : law_at 6 xs := by
  have b1 := i32_r (xs 1)
  have b2 := i32_r (xs 2)
  exact law_rd (L := 6) (xs := xs) (bt := []) (wt := []) (dt := []) (f := (F_10_1, [])) (ob_ok0 _) ⟨ft_cons (f_l rfl rfl) ( ft_cons (f_s rfl rfl rfl rfl) ( ft_cons (f_b rfl (fun r => congrArg (fun v => some (Value.int v :: r)) h0)) ( ft_cons (f_s rfl rfl rfl rfl) ( ft_cons (f_s rfl rfl rfl rfl) ( ft_cons (f_s rfl rfl rfl rfl) ( ft_cons (f_c (a := (xs 1)) (b := (Int32.ofNat 12)) rfl rfl rfl rfl (c_lt_f (by have a1 : (Int32.ofNat 12).toInt = 12 := (by decide); omega))) ( ft_cons (f_c (a := (xs 1)) (b := (Int32.ofNat 16)) rfl rfl rfl rfl (c_gt_f (by have a1 : (Int32.ofNat 16).toInt = 16 := (by decide); omega))) ( ft_cons (f_c (a := (xs 2)) (b := (Int32.ofNat 0)) rfl rfl rfl rfl (c_lt_t (by have a1 : (Int32.ofNat 0).toInt = 0 := (by decide); omega))) (ft_nil))))))))), fj_nil⟩ R_10_1
def F_10_2 : fa := [(301, 0, 0, 49), (300, 0, 0, 2405), (1, 2405, 249, 81), (300, 1, 0, 2413), (300, 2, 0, 2421), (300, 3, 0, 2429), (202, 2413, 97, 1), (204, 2413, 129, 1), (202, 2421, 1, 1), (205, 2421, 121, 1)]
set_option maxHeartbeats 0 in
theorem R_10_2 : fin_q (ev_rs eo0 (F_10_2, []) [7] Sa2) = true := by decide +kernel
theorem rd_10_2 (xs : Nat → Int32) (h0 : xs 0 &&& Int32.ofNat 31 = Int32.ofNat 10) (g1 : 12 ≤ (xs 1).toInt ∧ (xs 1).toInt ≤ 16) (g2 : 16 ≤ (xs 2).toInt) : law_at 6 xs := by
  have b1 := i32_r (xs 1)
  have b2 := i32_r (xs 2)
  exact law_rd (L := 6) (xs := xs) (bt := []) (wt := []) (dt := []) (f := (F_10_2, [])) (ob_ok0 _) ⟨ft_cons (f_l rfl rfl) ( ft_cons (f_s rfl rfl rfl rfl) ( ft_cons (f_b rfl (fun r => congrArg (fun v => some (Value.int v :: r)) h0)) ( ft_cons (f_s rfl rfl rfl rfl) ( ft_cons (f_s rfl rfl rfl rfl) ( ft_cons (f_s rfl rfl rfl rfl) ( ft_cons (f_c (a := (xs 1)) (b := (Int32.ofNat 12)) rfl rfl rfl rfl (c_lt_f (by have a1 : (Int32.ofNat 12).toInt = 12 := (by decide); omega))) ( ft_cons (f_c (a := (xs 1)) (b := (Int32.ofNat 16)) rfl rfl rfl rfl (c_gt_f (by have a1 : (Int32.ofNat 16).toInt = 16 := (by decide); omega))) ( ft_cons (f_c (a := (xs 2)) (b := (Int32.ofNat 0)) rfl rfl rfl rfl (c_lt_f (by have a1 : (Int32.ofNat 0).toInt = 0 := (by decide); omega))) ( ft_cons (f_c (a := (xs 2)) (b := (Int32.ofNat 15)) rfl rfl rfl rfl (c_le_f (by have a1 : (Int32.ofNat 15).toInt = 15 := (by decide); omega))) (ft_nil)))))))))), fj_nil⟩ R_10_2
def F_10_3 : fa := [(301, 0, 0, 49), (300, 0, 0, 2405), (1, 2405, 249, 81), (300, 1, 0, 2413), (300, 2, 0, 2421), (300, 3, 0, 2429), (202, 2413, 97, 1), (204, 2413, 129, 9)]
set_option maxHeartbeats 0 in
theorem R_10_3 : fin_q (ev_rs eo0 (F_10_3, []) [7] Sa2) = true := by decide +kernel
theorem rd_10_3 (xs : Nat → Int32) (h0 : xs 0 &&& Int32.ofNat 31 = Int32.ofNat 10) (g1 : 17 ≤ (xs 1).toInt) : law_at 6 xs := by
  have b1 := i32_r (xs 1)
  exact law_rd (L := 6) (xs := xs) (bt := []) (wt := []) (dt := []) (f := (F_10_3, [])) (ob_ok0 _) ⟨ft_cons (f_l rfl rfl) ( ft_cons (f_s rfl rfl rfl rfl) ( ft_cons (f_b rfl (fun r => congrArg (fun v => some (Value.int v :: r)) h0)) ( ft_cons (f_s rfl rfl rfl rfl) ( ft_cons (f_s rfl rfl rfl rfl) ( ft_cons (f_s rfl rfl rfl rfl) ( ft_cons (f_c (a := (xs 1)) (b := (Int32.ofNat 12)) rfl rfl rfl rfl (c_lt_f (by have a1 : (Int32.ofNat 12).toInt = 12 := (by decide); omega))) ( ft_cons (f_c (a := (xs 1)) (b := (Int32.ofNat 16)) rfl rfl rfl rfl (c_gt_t (by have a1 : (Int32.ofNat 16).toInt = 16 := (by decide); omega))) (ft_nil)))))))), fj_nil⟩ R_10_3
theorem cs_10 (xs : Nat → Int32) (h0 : xs 0 &&& Int32.ofNat 31 = Int32.ofNat 10) : law_at 6 xs := by
  have b1 := i32_r (xs 1)
  have b2 := i32_r (xs 2)
  have b3 := i32_r (xs 3)
  have b4 := i32_r (xs 4)
  have b5 := i32_r (xs 5)
  by_cases q0 : (xs 1).toInt < 12
  · skip
    exact rd_10_0 xs h0 (by omega)
  by_cases q3 : (xs 1).toInt < 17
  · skip
    by_cases q1 : (xs 2).toInt < 0
    · skip
      exact rd_10_1 xs h0 (by omega) (by omega)
    by_cases q2 : (xs 2).toInt < 16
    · skip
      exact fz_all xs h0 (by omega) (by omega)
    exact rd_10_2 xs h0 (by omega) (by omega)
  exact rd_10_3 xs h0 (by omega)
theorem law_pure6 : law_pure 6 := by
  intro L xs hL
  have c0 : L = 0 ∨ L = 1 ∨ L = 2 ∨ L = 3 ∨ L = 4 ∨ L = 5 ∨ L = 6 := by omega
  rcases c0 with rfl | rfl | rfl | rfl | rfl | rfl | rfl
  · exact rd_L0 xs
  · exact rd_L1 xs
  · exact rd_L2 xs
  · exact rd_L3 xs
  · exact rd_L4 xs
  · exact rd_L5 xs
  · obtain ⟨c, hc, e⟩ := pk_andE (xs 0) (m := 31) 5 (by decide)
    have h0 : ∀ k, c = k → xs 0 &&& Int32.ofNat 31 = Int32.ofNat k := fun k q => by rw [← q]; exact e
    have c1 : c = 0 ∨ c = 1 ∨ c = 2 ∨ c = 3 ∨ c = 4 ∨ c = 5 ∨ c = 6 ∨ c = 7 ∨ c = 8 ∨ c = 9 ∨ c = 10 ∨ c = 11 ∨ c = 12 ∨ c = 13 ∨ c = 14 ∨ c = 15 ∨ c = 16 ∨ c = 17 ∨ c = 18 ∨ c = 19 ∨ c = 20 ∨ c = 21 ∨ c = 22 ∨ c = 23 ∨ c = 24 ∨ c = 25 ∨ c = 26 ∨ c = 27 ∨ c = 28 ∨ c = 29 ∨ c = 30 ∨ c = 31 := by omega
    rcases c1 with a | a | a | a | a | a | a | a | a | a | a | a | a | a | a | a | a | a | a | a | a | a | a | a | a | a | a | a | a | a | a | a
    · exact cs_0 xs (h0 0 a)
    · exact cs_1 xs (h0 1 a)
    · exact cs_2 xs (h0 2 a)
    · exact cs_3 xs (h0 3 a)
    · exact cs_4 xs (h0 4 a)
    · exact cs_5 xs (h0 5 a)
    · exact cs_6 xs (h0 6 a)
    · exact cs_7 xs (h0 7 a)
    · exact cs_8 xs (h0 8 a)
    · exact cs_9 xs (h0 9 a)
    · exact cs_10 xs (h0 10 a)
    · exact cs_11 xs (h0 11 a)
    · exact cs_12 xs (h0 12 a)
    · exact cs_13 xs (h0 13 a)
    · exact cs_14 xs (h0 14 a)
    · exact cs_15 xs (h0 15 a)
    · exact cs_16 xs (h0 16 a)
    · exact cs_17 xs (h0 17 a)
    · exact cs_18 xs (h0 18 a)
    · exact cs_19 xs (h0 19 a)
    · exact cs_20 xs (h0 20 a)
    · exact cs_21 xs (h0 21 a)
    · exact cs_22 xs (h0 22 a)
    · exact cs_23 xs (h0 23 a)
    · exact cs_24 xs (h0 24 a)
    · exact cs_25 xs (h0 25 a)
    · exact cs_26 xs (h0 26 a)
    · exact cs_27 xs (h0 27 a)
    · exact cs_28 xs (h0 28 a)
    · exact cs_29 xs (h0 29 a)
    · exact cs_30 xs (h0 30 a)
    · exact cs_31 xs (h0 31 a)
