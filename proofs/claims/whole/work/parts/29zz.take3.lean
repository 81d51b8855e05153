/-! THE CLASS'S CODES: Code.take, its loops -/
section TAKE3
variable {d : Nat} {h : eg_H} {a b c0 c1 c2 c3 c4 c5 n N at0 r : Nat} {G : Nat → Nat} {f4 : Nat → Value} {fb : Nat → Value} {f5 f3 : Nat → Int32} {e : Int32}
theorem cond_le0 {x : Nat} (hx : x < 2 ^ 31) {q : Bool} (hc : eg_cnd .le (nI x) 0 = q) : q = true ↔ x = 0 := by
  subst hc
  show decide (nI x ≤ 0) = true ↔ _
  rw [decide_eq_true_iff, ← nI_0, nI_leI hx (by omega)]
  omega
/-- the loop that ranks symbols -/
theorem take_rank {K : Option Value → eg_H → Prop} {sum p1 : Int32} {P : Nat → Value} (hP : P 1 = .int p1) (ha : h.1 a = some (codeO c0 c1 c2 c3 c4 c5)) (hb : h.1 b = some (.inl (.int, N, fb))) (hfb : ∀ s, s < n → fb (at0 + s) = .int (nI (G s))) (hG : ∀ s, s < n → G s < 16) (hN : at0 + n ≤ N) (hN2 : N < 2 ^ 31) (hnr : n ≤ r) (hr : r < 2 ^ 31)
    (n3 : a ≠ c3) (n4 : a ≠ c4) (n5 : a ≠ c5) (m3 : b ≠ c3) (m4 : b ≠ c4) (m5 : b ≠ c5) (p35 : c5 ≠ c3) (p34 : c4 ≠ c3) (p45 : c4 ≠ c5) (t3 : 3 ≤ c3) (t5 : 3 ≤ c5)
    (k : K (some (.int (if takeB sum (nI (tL G n 15)) p1 e = true then 1 else 0))) (asH h c3 c4 c5 r P (nextL G n f5 n) (rankL G n f3 n))) :
    ∀ (m s : Nat) (y8 : Option Value), s ≤ n → n ≤ s + m → eg_K cl kY 3 mt d (some .boolean) kd16.2.2.2.2 (118, [some (.ref a), some (.ref b), some (.int (nI at0)), some (.int (nI n)), some (.int e), some (.int (nI (tL G n 15))), some (.int sum), some (.int (nI s)), y8], [], asH h c3 c4 c5 r P (nextL G n f5 s) (rankL G n f3 s)) K := by
  intro m
  induction m with
  | zero =>
    intro s y8 hs hm
    have e1 : s = n := by omega
    subst e1
    refine g_v 120 _ rfl rfl rfl rfl ?_
    refine g_v 121 _ rfl rfl rfl rfl ?_
    exact g_icmp 168 124 rfl rfl rfl (fun _ => take_end ((asH_ne n3 n4 n5).trans ha) (asH_4 p34 p45) hP k) (fun hc => absurd ((cond_ge (by omega) (by omega) hc).mpr (Nat.le_refl s)) (by decide))
  | succ m ih =>
    intro s y8 hs hm
    by_cases he : s = n
    · exact ih s y8 hs (by omega)
    have hlt : s < n := by omega
    have hGs := hG s hlt
    refine g_v 120 _ rfl rfl rfl rfl ?_
    refine g_v 121 _ rfl rfl rfl rfl ?_
    refine g_icmp 168 124 rfl rfl rfl (fun hc => absurd ((cond_ge (by omega) (by omega) hc).mp rfl) (by omega)) (fun _ => ?_)
    refine g_v 125 _ rfl rfl rfl rfl ?_
    refine g_v 126 _ rfl rfl rfl rfl ?_
    refine g_v 128 _ rfl rfl rfl rfl ?_
    refine g_p 129 (st2 := [.int (nI (at0 + s)), .ref b]) rfl (show some [Value.int (nI at0 + nI s), .ref b] = _ by rw [nI_add]) rfl rfl ?_
    refine g_iald 130 rfl ((asH_ne m3 m4 m5).trans hb) rfl (eg_in_nI (show at0 + s < N by omega) hN2) rfl ?_
    rw [nI_clamp (show at0 + s < 2 ^ 31 by omega), hfb s hlt]
    refine g_v 132 [some (.ref a), some (.ref b), some (.int (nI at0)), some (.int (nI n)), some (.int e), some (.int (nI (tL G n 15))), some (.int sum), some (.int (nI s)), some (.int (nI (G s)))] rfl rfl rfl rfl ?_
    refine g_v 134 _ rfl rfl rfl rfl ?_
    refine g_if 162 137 rfl rfl rfl (fun hc => ?_) (fun hc => ?_)
    · have g0 : G s = 0 := (cond_le0 (by omega) hc).mp rfl
      have e1 : nextL G n f5 (s + 1) = nextL G n f5 s := by
        funext l
        unfold nextL
        by_cases hl : 1 ≤ l ∧ l < 16
        · rw [if_pos hl, if_pos hl]
          simp only [pL]
          rw [if_neg (by omega), Nat.add_zero]
        · rw [if_neg hl, if_neg hl]
      have e2 : rankL G n f3 (s + 1) = rankL G n f3 s := by
        simp only [rankL]
        rw [if_neg (by omega)]
      refine g_v 165 _ rfl rfl rfl rfl ?_
      refine g_b 118 rfl rfl rfl ?_
      have K9 := ih (s + 1) (some (.int (nI (G s)))) (by omega) (by omega)
      rw [e1, e2, show nI (s + 1) = nI s + Int32.ofInt 1 from (nI_1 s).symm] at K9
      exact K9
    · have g1 : 1 ≤ G s := by
        rcases Nat.eq_zero_or_pos (G s) with z | z
        · exact absurd ((cond_le0 (by omega) hc).mpr z) (by decide)
        · exact z
      have hX := rank_lt G hlt rfl g1
      have hX2 := tL_le G n (G s)
      have eF : nextL G n f5 s (G s) = nI (tL G n (G s - 1) + pL G s (G s)) := by
        unfold nextL
        rw [if_pos ⟨g1, hGs⟩]
      refine g_v 138 _ rfl rfl rfl rfl ?_
      refine g_get 141 rfl rfl rfl ((asH_ne n3 n4 n5).trans ha) rfl rfl ?_
      refine g_v 142 _ rfl rfl rfl rfl ?_
      refine g_get 145 rfl rfl rfl ((asH_ne n3 n4 n5).trans ha) rfl rfl ?_
      refine g_v 147 _ rfl rfl rfl rfl ?_
      refine g_iald 148 rfl (asH_5 p35) rfl (eg_in_nI (show G s < 17 by omega) (by decide)) rfl ?_
      rw [nI_clamp (show G s < 2 ^ 31 by omega), eF]
      refine g_v 150 _ rfl rfl rfl rfl ?_
      refine g_iast 151 rfl asH_2 rfl rfl (eg_in_nI (show tL G n (G s - 1) + pL G s (G s) < r by omega) hr) t3 rfl ?_
      rw [nI_clamp (show tL G n (G s - 1) + pL G s (G s) < 2 ^ 31 by omega), upd_int, asH_put2 (C2 := rankL G n f3 (s + 1)) (by simp only [rankL]; rw [if_pos g1])]
      refine g_v 152 _ rfl rfl rfl rfl ?_
      refine g_get 155 rfl rfl rfl ((asH_ne n3 n4 n5).trans ha) rfl rfl ?_
      refine g_v 157 _ rfl rfl rfl rfl ?_
      refine g_p 158 rfl rfl rfl rfl ?_
      refine g_iald 159 rfl (asH_5 p35) rfl (eg_in_nI (show G s < 17 by omega) (by decide)) rfl ?_
      rw [nI_clamp (show G s < 2 ^ 31 by omega), eF]
      refine g_p 160 rfl rfl rfl rfl ?_
      refine g_p 161 rfl rfl rfl rfl ?_
      refine g_iast 162 rfl (asH_5 p35) rfl rfl (eg_in_nI (show G s < 17 by omega) (by decide)) t5 rfl ?_
      rw [nI_clamp (show G s < 2 ^ 31 by omega), upd_int, asH_put5 (F2 := nextL G n f5 (s + 1)) p35 (by
        funext l
        by_cases el : l = G s
        · subst el
          rw [if_pos rfl]
          unfold nextL
          rw [if_pos ⟨g1, hGs⟩]
          simp only [pL]
          rw [if_pos trivial, ← Nat.add_assoc]
          rw [show nI (tL G n (G s - 1) + pL G s (G s)) + Int32.ofInt 1 = nI (tL G n (G s - 1) + pL G s (G s) + 1) from nI_1 _]
        · rw [if_neg el]
          unfold nextL
          by_cases hl : 1 ≤ l ∧ l < 16
          · rw [if_pos hl, if_pos hl]
            simp only [pL]
            rw [if_neg (fun q => el q.symm), Nat.add_zero]
          · rw [if_neg hl, if_neg hl])]
      refine g_v 165 _ rfl rfl rfl rfl ?_
      refine g_b 118 rfl rfl rfl ?_
      have K9 := ih (s + 1) (some (.int (nI (G s)))) (by omega) (by omega)
      rw [show nI (s + 1) = nI s + Int32.ofInt 1 from (nI_1 s).symm] at K9
      exact K9
/-- the loop over lengths: where each begins, the sum -/
theorem take_sums {K : Option Value → eg_H → Prop} {P : Nat → Value} (hP : ∀ l, l < 16 → P l = .int (nI (pL G n l))) (ha : h.1 a = some (codeO c0 c1 c2 c3 c4 c5)) (hb : h.1 b = some (.inl (.int, N, fb))) (hfb : ∀ s, s < n → fb (at0 + s) = .int (nI (G s))) (hG : ∀ s, s < n → G s < 16) (hN : at0 + n ≤ N) (hN2 : N < 2 ^ 31) (hnr : n ≤ r) (hr : r < 2 ^ 31)
    (n3 : a ≠ c3) (n4 : a ≠ c4) (n5 : a ≠ c5) (m3 : b ≠ c3) (m4 : b ≠ c4) (m5 : b ≠ c5) (p35 : c5 ≠ c3) (p34 : c4 ≠ c3) (p45 : c4 ≠ c5) (t3 : 3 ≤ c3) (t5 : 3 ≤ c5)
    (k : K (some (.int (if takeB (sumL (fun l => nI (pL G n l)) 15) (nI (tL G n 15)) (nI (pL G n 1)) e = true then 1 else 0))) (asH h c3 c4 c5 r P (nextL G n f5 n) (rankL G n f3 n))) :
    ∀ (m j : Nat), j ≤ 15 → 15 ≤ j + m → eg_K cl kY 3 mt d (some .boolean) kd16.2.2.2.2 (63, [some (.ref a), some (.ref b), some (.int (nI at0)), some (.int (nI n)), some (.int e), some (.int (nI (tL G n j))), some (.int (sumL (fun l => nI (pL G n l)) j)), some (.int (nI (j + 1))), none], [], asH h c3 c4 c5 r P (fun l => if 1 ≤ l ∧ l ≤ j then nI (tL G n (l - 1)) else f5 l) f3) K := by
  have e16 : (Int8.ofInt 16).toInt32 = nI 16 := by decide
  intro m
  induction m with
  | zero =>
    intro j hj hm
    have e1 : j = 15 := by omega
    subst e1
    refine g_v 65 _ rfl rfl rfl rfl ?_
    refine g_p 67 rfl rfl rfl rfl ?_
    refine g_b 115 rfl rfl rfl ?_
    refine g_p 116 rfl rfl rfl rfl ?_
    refine g_v 118 [some (.ref a), some (.ref b), some (.int (nI at0)), some (.int (nI n)), some (.int e), some (.int (nI (tL G n 15))), some (.int (sumL (fun l => nI (pL G n l)) 15)), some (.int (nI 0)), none] rfl rfl rfl rfl ?_
    have K9 := take_rank (d := d) (e := e) (f3 := f3) (f5 := f5) (sum := sumL (fun l => nI (pL G n l)) 15) (hP 1 (by omega)) ha hb hfb hG hN hN2 hnr hr n3 n4 n5 m3 m4 m5 p35 p34 p45 t3 t5 k n 0 none (Nat.zero_le n) (by omega)
    rw [show nextL G n f5 0 = (fun l => if 1 ≤ l ∧ l ≤ 15 then nI (tL G n (l - 1)) else f5 l) by
      funext l
      unfold nextL
      by_cases hl : 1 ≤ l ∧ l < 16
      · rw [if_pos hl, if_pos (by omega)]
        rfl
      · rw [if_neg hl, if_neg (by omega)]] at K9
    exact K9
  | succ m ih =>
    intro j hj hm
    by_cases he : j = 15
    · exact ih j hj (by omega)
    refine g_v 65 _ rfl rfl rfl rfl ?_
    refine g_p 67 rfl rfl rfl rfl ?_
    rw [e16]
    refine g_icmp 115 70 rfl rfl rfl (fun hc => absurd ((cond_ge (by omega) (by omega) hc).mp rfl) (by omega)) (fun _ => ?_)
    refine g_v 71 _ rfl rfl rfl rfl ?_
    refine g_get 74 rfl rfl rfl ((asH_ne n3 n4 n5).trans ha) rfl rfl ?_
    refine g_v 76 _ rfl rfl rfl rfl ?_
    refine g_v 78 _ rfl rfl rfl rfl ?_
    refine g_iast 79 rfl (asH_5 p35) rfl rfl (eg_in_nI (show j + 1 < 17 by omega) (by decide)) t5 rfl ?_
    rw [nI_clamp (show j + 1 < 2 ^ 31 by omega), upd_int, asH_put5 (F2 := fun l => if 1 ≤ l ∧ l ≤ j + 1 then nI (tL G n (l - 1)) else f5 l) p35 (by
      funext l
      by_cases el : l = j + 1
      · subst el
        rw [if_pos rfl, if_pos (by omega)]
        rfl
      · by_cases hl : 1 ≤ l ∧ l ≤ j
        · rw [if_neg el, if_pos hl, if_pos (by omega)]
        · rw [if_neg el, if_neg hl, if_neg (by omega)])]
    have hPj := hP (j + 1) (by omega)
    refine g_v 81 _ rfl rfl rfl rfl ?_
    refine g_v 82 _ rfl rfl rfl rfl ?_
    refine g_get 85 rfl rfl rfl ((asH_ne n3 n4 n5).trans ha) rfl rfl ?_
    refine g_v 87 _ rfl rfl rfl rfl ?_
    refine g_iald 88 rfl (asH_4 p34 p45) rfl (eg_in_nI (show j + 1 < 16 by omega) (by decide)) rfl ?_
    rw [nI_clamp (show j + 1 < 2 ^ 31 by omega), hPj]
    refine g_p 89 (st2 := [.int (nI (tL G n (j + 1)))]) rfl (show some [Value.int (nI (tL G n j) + nI (pL G n (j + 1)))] = _ by rw [nI_add]; rfl) rfl rfl ?_
    refine g_v 91 [some (.ref a), some (.ref b), some (.int (nI at0)), some (.int (nI n)), some (.int e), some (.int (nI (tL G n (j + 1)))), some (.int (sumL (fun l => nI (pL G n l)) j)), some (.int (nI (j + 1))), none] rfl rfl rfl rfl ?_
    refine g_v 93 _ rfl rfl rfl rfl ?_
    refine g_v 94 _ rfl rfl rfl rfl ?_
    refine g_get 97 rfl rfl rfl ((asH_ne n3 n4 n5).trans ha) rfl rfl ?_
    refine g_v 99 _ rfl rfl rfl rfl ?_
    refine g_iald 100 rfl (asH_4 p34 p45) rfl (eg_in_nI (show j + 1 < 16 by omega) (by decide)) rfl ?_
    rw [nI_clamp (show j + 1 < 2 ^ 31 by omega), hPj]
    refine g_p 102 rfl rfl rfl rfl ?_
    refine g_v 104 _ rfl rfl rfl rfl ?_
    refine g_p 105 rfl rfl rfl rfl ?_
    refine g_p 106 rfl rfl rfl rfl ?_
    refine g_p 107 rfl rfl rfl rfl ?_
    refine g_v 109 [some (.ref a), some (.ref b), some (.int (nI at0)), some (.int (nI n)), some (.int e), some (.int (nI (tL G n (j + 1)))), some (.int (sumL (fun l => nI (pL G n l)) (j + 1))), some (.int (nI (j + 1))), none] rfl rfl rfl rfl ?_
    refine g_v 112 _ rfl rfl rfl rfl ?_
    refine g_b 63 rfl rfl rfl ?_
    have K9 := ih (j + 1) (by omega) (by omega)
    rw [show nI (j + 1 + 1) = nI (j + 1) + Int32.ofInt 1 from (nI_1 (j + 1)).symm] at K9
    exact K9
end TAKE3
