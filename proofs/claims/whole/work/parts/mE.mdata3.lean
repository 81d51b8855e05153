/-! FREEZING: data; the reference: twins, files -/
theorem bkN_w {op : Int} {B : Nat} {n : Int} (hB : bB5 B) (hn : 0 ≤ n) : (op / 4 % 2 = 0 → bkN op B n = n / B ∧ rsN op B n = n % B) ∧ (op / 4 % 2 ≠ 0 → bkN op B n = n / B + (if 0 < n % B then 1 else 0) ∧ rsN op B n = 0) ∧ (0 ≤ n / B ∧ n / B ≤ n / 4096 ∧ n / B * B + n % B = n ∧ 0 ≤ n % B ∧ n % B < B) := by
  refine ⟨fun h => ?_, fun h => ?_, ?_⟩
  · have e : rsN op B n = n % B := if_pos h
    refine ⟨?_, e⟩
    unfold bkN
    rw [e]
    rcases hB with q | q | q | q | q <;> (rw [q]; omega)
  · have e : rsN op B n = 0 := if_neg h
    refine ⟨?_, e⟩
    unfold bkN
    rw [e]
    rcases hB with q | q | q | q | q <;> (rw [q]; split <;> omega)
  · rcases hB with q | q | q | q | q <;> (rw [q]; omega)
section MDATA3
variable {d nx zl : Nat} {K : Option TV → FH → Prop} {sh : Nat → Option Shp} {M : FM} {op : Int} {B : Nat} {s : DS} {L : List Int}
theorem mtwin_Y {k : Nat} {x : Int} (hW : twR M) (hP : nuP M L) (hU : ∀ (i : Nat) (y : Int), L[i]? = some y → M 213 i = y) (hk : L[k]? = some x) (hx2 : M 171 x = 2) (kk : K (some (ti (match twX M L x k with
    | some y => y
    | none => -1))) (sh, M, nx, zl)) : fm_Y (d + 1) 267 [.ref 168, .int (Int32.ofInt k)] (sh, M, nx, zl) K := by
  have xl := (hP.2 x (List.mem_of_getElem? hk)).1
  have kl := (List.getElem?_eq_some_iff.1 hk).1
  have LL := nuP_len hW hP
  have nN := hW.1.1
  have t17 := hW.2.1.1
  have xr := (hW.2.1.2 x xl.1 xl.2).1
  have xr2 := (hW.2.1.2 x xl.1 xl.2).2.1 hx2
  have uk := hU k x hk
  refine m267 [fx 168, ti k] ?_
  refine ⟨by omega, ?_⟩
  rw [uk]
  have LOOP : ∀ (N j : Nat) (y4 y5 y6 : Option TV), k - j < N → j ≤ k → twX M L x j = none → fm_X d kd267 9 [some (fx 168), some (ti k), some (ti x), some (ti j), y4, y5, y6] [] (sh, M, nx, zl) K := by
    intro N
    induction N with
    | zero =>
      intro j y4 y5 y6 hN
      omega
    | succ N ih =>
      intro j y4 y5 y6 hN hj hn
      refine s267_9 d K _ _ _ ?_
      refine ⟨by omega, fun w => ?_, fun w => ?_⟩
      · have e : j = k := by omega
        rw [e] at hn
        rw [hn] at kk
        exact kk
      · have hjl : j < L.length := by omega
        obtain ⟨y, hy⟩ : ∃ y, L[j]? = some y := ⟨_, List.getElem?_eq_getElem hjl⟩
        have yl := (hP.2 y (List.mem_of_getElem? hy)).1
        have yr := (hW.2.1.2 y yl.1 yl.2).1
        have yk := (hW.1.2 y yl.1 yl.2).1
        have uj := hU j y hy
        have es : twX M L x (j + 1) = if M 171 y = 2 ∧ fbL M y = fbL M x then some y else none := by
          show (match twX M L x j with
            | some y => some y
            | none => match L[j]? with
              | some y => if M 171 y = 2 ∧ fbL M y = fbL M x then some y else none
              | none => none) = _
          rw [hn, hy]
        have XL : ((fbL M x).length : Int) = M 180 x := by
          unfold fbL
          rw [sl_len]
          omega
        have YL : ((fbL M y).length : Int) = M 180 y := by
          unfold fbL
          rw [sl_len]
          omega
        have END : ∀ (z i : Int), (z = 1 ∧ M 171 y = 2 ∧ fbL M y = fbL M x ∨ z = 0 ∧ ¬ (M 171 y = 2 ∧ fbL M y = fbL M x)) → b267_120 d (fW d kd267 K) K [some (fx 168), some (ti k), some (ti x), some (ti j), some (ti y), some (ti z), some (ti i)] [] (sh, M, nx, zl) := by
          intro z i hz
          rcases hz with ⟨z1, z2⟩ | ⟨z1, z2⟩
          · refine ⟨by omega, fun w2 => by omega, fun w2 => ?_⟩
            have tw : twX M L x k = some y := by
              have := twX_le (M := M) (L := L) (x := x) (y := y) (j := j + 1) (by rw [es, if_pos z2]) (k - (j + 1))
              rw [show j + 1 + (k - (j + 1)) = k by omega] at this
              exact this
            rw [tw] at kk
            exact kk
          · refine ⟨by omega, fun w2 => ?_, fun w2 => by omega⟩
            exact ih (j + 1) _ _ _ (by omega) (by omega) (by rw [es, if_neg z2])
        have INN : ∀ (N2 : Nat) (i z : Int), (M 180 x - i).toNat < N2 → 0 ≤ i → i ≤ M 180 x → (z = 1 ∧ (M 171 y = 2 ∧ M 180 y = M 180 x) ∧ (∀ q : Int, 0 ≤ q → q < i → M 181 (M 179 y + q) % 256 = M 181 (M 179 x + q) % 256) ∨ z = 0 ∧ ¬ (M 171 y = 2 ∧ fbL M y = fbL M x)) → fm_X d kd267 59 [some (fx 168), some (ti k), some (ti x), some (ti j), some (ti y), some (ti z), some (ti i)] [] (sh, M, nx, zl) K := by
          intro N2
          induction N2 with
          | zero =>
            intro i z hN3
            omega
          | succ N2 ih2 =>
            intro i z hN3 i0 i1 hz
            have zr : 0 ≤ z ∧ z ≤ 1 := by
              rcases hz with ⟨z1, _⟩ | ⟨z1, _⟩ <;> omega
            refine s267_59 d K _ _ _ ?_
            refine ⟨by omega, ?_⟩
            refine ⟨by omega, fun w2 => END z i ?_, fun w2 => ?_⟩
            · rcases hz with ⟨z1, z2, z3⟩ | ⟨z1, z2⟩
              · refine Or.inl ⟨z1, z2.1, ?_⟩
                unfold fbL
                rw [z2.2]
                exact sl_congr _ _ _ (fun q hq => z3 q (by omega) (by omega))
              · exact Or.inr ⟨z1, z2⟩
            · refine ⟨by omega, fun w3 => END z i ?_, fun w3 => ?_⟩
              · rcases hz with ⟨z1, z2, z3⟩ | ⟨z1, z2⟩
                · omega
                · exact Or.inr ⟨z1, z2⟩
              · rcases hz with ⟨z1, z2, z3⟩ | ⟨z1, z2⟩
                · have yr2 := (hW.2.1.2 y yl.1 yl.2).2.1 z2.1
                  refine ⟨by omega, ?_⟩
                  refine ⟨by omega, ?_⟩
                  refine ⟨by omega, ?_⟩
                  refine ⟨by omega, ?_⟩
                  refine ⟨by omega, fun w4 => ?_, fun w4 => ?_⟩
                  · refine ih2 (i + 1) 0 (by omega) (by omega) (by omega) (Or.inr ⟨rfl, fun hh => ?_⟩)
                    have q := hh.2
                    unfold fbL at q
                    rw [z2.2] at q
                    have := sl_inj _ _ _ q i.toNat (by omega)
                    rw [show ((i.toNat : Nat) : Int) = i by omega] at this
                    omega
                  · refine ih2 (i + 1) 1 (by omega) (by omega) (by omega) (Or.inl ⟨rfl, z2, fun q q0 q1 => ?_⟩)
                    by_cases e : q = i
                    · rw [e]
                      omega
                    · exact z3 q q0 (by omega)
                · omega
        refine ⟨by omega, ?_⟩
        rw [uj]
        refine ⟨by omega, ?_⟩
        refine ⟨by omega, fun w2 => ?_, fun w2 => ?_⟩
        · exact INN ((M 180 x - 0).toNat + 1) 0 0 (by omega) (by omega) (by omega) (Or.inr ⟨rfl, fun q => w2 q.1⟩)
        · have yr2 := (hW.2.1.2 y yl.1 yl.2).2.1 w2
          refine ⟨by omega, ?_⟩
          refine ⟨by omega, ?_⟩
          refine ⟨by omega, fun w3 => ?_, fun w3 => ?_⟩
          · exact INN ((M 180 x - 0).toNat + 1) 0 0 (by omega) (by omega) (by omega) (Or.inr ⟨rfl, fun q => w3 (by rw [← XL, ← YL, q.2])⟩)
          · exact INN ((M 180 x - 0).toNat + 1) 0 1 (by omega) (by omega) (by omega) (Or.inl ⟨rfl, ⟨w2, by omega⟩, fun q q0 q1 => by omega⟩)
  exact LOOP (k + 1) 0 none none none (by omega) (by omega) rfl
theorem mputFile_Y {x p n : Int} {X : List Int} {k0 : Nat} {S : Int} (hx : 0 ≤ x ∧ x < 2000) (hB : bB5 B) (hop : 0 ≤ op ∧ op ≤ 15) (h68 : M 168 68 = B) (h69 : M 168 69 = op) (h179 : M 179 x = p) (h180 : M 180 x = n) (hp : 0 ≤ p) (hn : 0 ≤ n) (hpn : p + n ≤ 65536) (hX : sl (M 181) p n.toNat = X) (hD : daM M s) (hq : dqI s k0 S B) (hS0 : 0 ≤ S) (hS : S + n ≤ 65536) (hk0 : k0 < 2000)
    (k : ∀ M2 : FM, mdaF M M2 x → daM M2 (fiD op B X x s) → naM M2 (dN (fiD op B X x s)) x → K none (sh, M2, nx, zl)) : fm_Y (d + 21) 268 [.ref 168, .int (Int32.ofInt x)] (sh, M, nx, zl) K := by
  have br := bB5_r hB
  have xl : (X.length : Int) = n := by
    rw [← hX, sl_len]
    omega
  obtain ⟨W0, W1, w0, w1, w2, w3, w4⟩ := bkN_w (op := op) hB hn
  obtain ⟨⟨q1, q2, q3⟩, ⟨A, A0, A1, A2⟩, q5, q6, q7⟩ := id hq
  obtain ⟨⟨i1, i2, i3, i4⟩, i5, i6⟩ := fi0_q (op := op) (B := B) (X := X) (x := x) k0 hq (by omega) (by omega) hS0
  obtain ⟨⟨m0, m1⟩, m2, m3, ⟨r0, r1, r2⟩, m4⟩ := bkN_b (op := op) (B := B) (n := n) hB hn
  have BQ : ∀ i : Nat, i ≤ 17 → (((dI (bkD op B X x (fi0 op B X x s) i)).length : Int) ≤ (dI s).length + min (i * B : Int) n ∧ (dB (bkD op B X x (fi0 op B X x s) i)).length = (dB s).length + i) ∧ (dF (bkD op B X x (fi0 op B X x s) i) = dF s ∧ dT (bkD op B X x (fi0 op B X x s) i) = dT s) := by
    intro i hi
    have := bkD_q (op := op) (B := B) (X := X) (x := x) (s := fi0 op B X x s) hB (by omega) (by rw [i2]; exact q5) i5 i6 i hi
    rw [i1, i2, i3, i4, xl] at this
    exact ⟨this.1, this.2.1⟩
  have f0 := fi0_x (op := op) (B := B) (X := X) (x := x) (s := s)
  rw [xl] at f0
  have LB : ∀ i : Nat, dN (bkD op B X x (fi0 op B X x s) i) 0 x = dN (fi0 op B X x s) 0 x ∧ dN (bkD op B X x (fi0 op B X x s) i) 1 x = dN (fi0 op B X x s) 1 x ∧ dN (bkD op B X x (fi0 op B X x s) i) 4 x = -1 ∧ dN (bkD op B X x (fi0 op B X x s) i) 5 x = 0 := fun i => ⟨bkD_o _ i 0 x (Or.inr (by decide)), bkD_o _ i 1 x (Or.inr (by decide)), (bkD_o _ i 4 x (Or.inr (by decide))).trans f0.2.2.1, (bkD_o _ i 5 x (Or.inr (by decide))).trans f0.2.2.2⟩
  have hfi : fiD op B X x s = fiR op B X x (bkD op B X x (fi0 op B X x s) (bkN op B n).toNat) := by
    unfold fiD
    rw [xl]
  have rx : rsN op B X.length = rsN op B n := by rw [xl]
  refine m268 [fx 168, ti x] ?_
  refine ⟨by omega, ?_⟩
  refine ⟨by omega, ?_⟩
  refine ⟨by omega, ?_⟩
  refine ⟨by omega, ?_⟩
  rw [h180, h68]
  refine ⟨_, (iand_op (op := M 168 69) (by rw [h69]; exact hop)).2.1, ?_⟩
  -- the blocks are put; what of the rest
  have LOOP : ∀ (ow : Int), (ow = 1 ∧ op / 4 % 2 ≠ 0 ∧ 0 < n % B ∨ ow = 0 ∧ (op / 4 % 2 = 0 ∨ n % B = 0)) → ∀ (N i : Nat) (M1 : FM) (y6 : Option TV), (n / B).toNat - i < N → (i : Int) ≤ n / B → mdaF M M1 x → daM M1 (bkD op B X x (fi0 op B X x s) i) → naM M1 (dN (bkD op B X x (fi0 op B X x s) i)) x → fm_X (d + 20) kd268 109 [some (fx 168), some (ti x), some (ti (n / B)), some (ti (n % B)), some (ti ow), some (ti i), y6] [] (sh, M1, nx, zl) K := by
    intro ow how N
    have owr : 0 ≤ ow ∧ ow ≤ 1 := by
      rcases how with ⟨q, _⟩ | ⟨q, _⟩ <;> omega
    induction N with
    | zero =>
      intro i M1 y6 hN
      omega
    | succ N ih =>
      intro i M1 y6 hN hi f1 D1 N1
      have e179 : M1 179 x = p := by rw [f1.1 179 (by omega) (by omega) (by omega) (by omega)]; exact h179
      have e181 : M1 181 = M 181 := f1.1 181 (by omega) (by omega) (by omega) (by omega)
      have e68 : M1 168 68 = B := by rw [f1.2.1 68 (by decide) (by decide) (by decide) (by decide)]; exact h68
      have e69 : M1 168 69 = op := by rw [f1.2.1 69 (by decide) (by decide) (by decide) (by decide)]; exact h69
      obtain ⟨⟨b1, b2⟩, b3, b4⟩ := BQ i (by omega)
      have i0 : (0 : Int) ≤ (i : Int) * B := by
        have := Int.natCast_nonneg (i * B)
        rw [Int.natCast_mul] at this
        exact this
      refine s268_109 (d + 20) K _ _ _ ?_
      refine ⟨by omega, fun w => ?_, fun w => ?_⟩
      · have ei : (i : Int) = n / B := by omega
        have eiB : (i : Int) * B = n / B * B := by rw [ei]
        have wb : n / B * M1 168 68 = n / B * B := by rw [e68]
        refine ⟨by omega, ?_⟩
        obtain ⟨t, ht⟩ : ∃ t, t = bkD op B X x (fi0 op B X x s) i := ⟨_, rfl⟩
        rw [← ht] at D1 N1 b1 b2 b3 b4
        have b3l : (dF t).length = (dF s).length := by rw [b3]
        have b4l : (dT t).length = (dT s).length := by rw [b4]
        have bI : ((dI t).length : Int) + n % B ≤ (dI s).length + n := by omega
        clear b1
        have FR : ∀ fr : Int, fr = p + n / B * B → (o_is 5 (o_il 4 (o_if .eq (o_il 3 (o_if .le (b268_260 (d + 20) (fW (d + 20) kd268 K) K) (o_al 0 (o_get 12 82 82 (o_il 3 (o_iadd (o_al 0 (o_get 12 68 68 (o_icmp .le (b268_196 (d + 20) (fW (d + 20) kd268 K) K) (o_al 0 (b268_193 (d + 20) (fW (d + 20) kd268 K) K))))))))))) (o_al 0 (o_il 1 (o_il 5 (o_il 3 (o_callv (d + 20) 269 3 12 (b268_260 (d + 20) (fW (d + 20) kd268 K) K)))))))) : FC) [some (fx 168), some (ti x), some (ti (n / B)), some (ti (n % B)), some (ti ow), some (ti i), y6] [ti fr] (sh, M1, nx, zl) := by
          intro fr hfr
          rcases how with ⟨o1, o2, o3⟩ | ⟨o1, o2⟩
          · -- a block of its own
            refine ⟨by omega, fun w5 => by omega, fun w5 => ?_⟩
            obtain ⟨W2, W3⟩ := W1 o2
            rw [if_pos o3] at W2
            have ck : chk X B i = sl (M 181) fr (n % B).toNat := by
              rw [← hX, chk_sl hn (by omega), hfr, eiB, show min (B : Int) (n - n / B * B) = n % B by omega]
            refine mputBlock_Y (s := t) (X := chk X B i) hx hop e69 (by omega) (by omega) (by omega) (by rw [e181]; exact ck.symm) D1 (by omega) (by omega) ⟨N1.2.2.2.2.1, N1.2.2.2.2.2⟩ (fun M2 f2 D2 n2 n3 n4 => ?_)
            have em : (bkN op B n).toNat = i + 1 := by omega
            have ep : pbD op t x (chk X B i) = bkD op B X x (fi0 op B X x s) (i + 1) := by
              rw [ht]
              rfl
            have ef : fiD op B X x s = pbD op t x (chk X B i) := by
              rw [hfi, em, ← ep]
              unfold fiR
              rw [rx, if_pos W3]
            refine k M2 (mdaF_t f1 f2) (by rw [ef]; exact D2) ?_
            rw [ef]
            have l1 := LB (i + 1)
            have l0 := LB i
            rw [← ep] at l1
            rw [← ht] at l0
            refine ⟨?_, ?_, ?_, ?_, n2, n3⟩
            · rw [n4 216 (by omega) (by omega), l1.1, ← l0.1]
              exact N1.1
            · rw [n4 217 (by omega) (by omega), l1.2.2.1, ← l0.2.2.1]
              exact N1.2.1
            · rw [n4 218 (by omega) (by omega), l1.2.2.2, ← l0.2.2.2]
              exact N1.2.2.1
            · rw [n4 219 (by omega) (by omega), l1.2.1, ← l0.2.1]
              exact N1.2.2.2.1
          · refine ⟨by omega, fun w5 => ?_, fun w5 => by omega⟩
            have em : (bkN op B n).toNat = i := by
              by_cases c4 : op / 4 % 2 = 0
              · have := (W0 c4).1
                omega
              · have W2 := (W1 c4).1
                rw [if_neg (by omega)] at W2
                omega
            have ef : fiD op B X x s = fiR op B X x t := by rw [hfi, em, ht]
            refine ⟨by omega, fun w6 => ?_, fun w6 => ?_⟩
            · have er : rsN op B n = 0 := by
                by_cases c4 : op / 4 % 2 = 0
                · have := (W0 c4).2
                  omega
                · exact (W1 c4).2
              have ef2 : fiR op B X x t = t := by
                unfold fiR
                rw [rx, if_pos er]
              refine k M1 f1 (by rw [ef, ef2]; exact D1) (by rw [ef, ef2]; exact N1)
            · -- to a fragment
              have c4 : op / 4 % 2 = 0 := by omega
              have er : rsN op B n = n % B := (W0 c4).2
              have rne : rsN op B n ≠ 0 := by omega
              obtain ⟨r, hr⟩ : ∃ r, r = n % B := ⟨_, rfl⟩
              obtain ⟨u, hu⟩ : ∃ u, u = (if (B : Int) < (dF t).length + r then clD op t else t) := ⟨_, rfl⟩
              have ef2 : fiR op B X x t = (dI u, dB t, dF u ++ X.drop (X.length - r.toNat), dT u, setN (setN (dN t) 4 x (dT u).length) 5 x (dF u).length) := by
                unfold fiR
                rw [rx, if_neg rne, er, ← hr, ← hu]
              have B196 : ∀ M2 : FM, mdaF M1 M2 x → (∀ c : Nat, 216 ≤ c → c ≤ 221 → M2 c = M1 c) → daM M2 u → b268_196 (d + 20) (fW (d + 20) kd268 K) K [some (fx 168), some (ti x), some (ti (n / B)), some (ti (n % B)), some (ti ow), some (ti fr), y6] [] (sh, M2, nx, zl) := by
                intro M2 f2 g2 D2
                have e181' : M2 181 = M 181 := by rw [f2.1 181 (by omega) (by omega) (by omega) (by omega), e181]
                obtain ⟨E1, ⟨E2, E3⟩, ⟨E4, E5⟩, E6, E7⟩ := id D2
                have ub : dB u = dB t := by
                  rw [hu]
                  split
                  · exact (clD_n (op := op) (s := t)).2
                  · rfl
                have ul : ((dF u).length : Int) + r ≤ 65536 := by
                  rw [hu]
                  split
                  · rw [clD_f]
                    show ((0 : Nat) : Int) + r ≤ 65536
                    omega
                  · rename_i hh
                    omega
                have ut : (dT u).length ≤ 1000 := by
                  rw [hu]
                  unfold clD
                  split
                  · split
                    · omega
                    · show (dT t ++ [(((dI t).length : Int), (stB op (dF t)).2)]).length ≤ 1000
                      rw [List.length_append]
                      show (dT t).length + 1 ≤ 1000
                      omega
                  · omega
                refine ⟨by omega, ?_⟩
                obtain ⟨Q1, g1⟩ : ∃ Q1 : FM, Q1 = pq M2 217 x (M2 168 78) := ⟨_, rfl⟩
                obtain ⟨Q2, g3⟩ : ∃ Q2 : FM, Q2 = pq Q1 218 x (Q1 168 82) := ⟨_, rfl⟩
                have q2o : ∀ c : Nat, c ≠ 217 → c ≠ 218 → Q2 c = M2 c := fun c c1 c2 => by rw [g3, pq_o _ _ _ c2, g1, pq_o _ _ _ c1]
                have q217 : Q2 217 x = (dT u).length := by
                  rw [g3, pq_o _ _ _ (by omega), g1, pq_at]
                  exact E6
                have q218 : Q2 218 x = (dF u).length := by
                  rw [g3, pq_at, g1, pq_o _ _ _ (by omega)]
                  exact E4
                have q2x : ∀ (c : Nat) (y : Int), y ≠ x → Q2 c y = M2 c y := fun c y hy => by
                  by_cases c1 : c = 217
                  · rw [c1, g3, pq_o _ _ _ (by omega), g1, pq_ne _ _ _ _ hy]
                  · by_cases c2 : c = 218
                    · rw [c2, g3, pq_ne _ _ _ _ hy, g1, pq_o _ _ _ (by omega)]
                    · rw [q2o c c1 c2]
                have f2' : mdaF M2 Q2 x := ⟨fun c c1 c2 c3 c4 => q2o c (by omega) (by omega), fun j _ _ _ _ => by rw [q2o 168 (by omega) (by omega)], fun c y _ hy => q2x c y hy⟩
                -- bytes to the fragment
                have CP : ∀ (N3 j : Nat) (M3 : FM), r.toNat - j < N3 → (j : Int) ≤ r → (∀ c : Nat, c ≠ 168 → c ≠ 225 → M3 c = Q2 c) → (∀ i : Int, i ≠ 82 → M3 168 i = Q2 168 i) → M3 168 82 = (dF u).length + j → sl (M3 225) 0 ((dF u).length + j) = dF u ++ sl (M 181) fr j → fm_X (d + 20) kd268 219 [some (fx 168), some (ti x), some (ti (n / B)), some (ti (n % B)), some (ti ow), some (ti fr), some (ti j)] [] (sh, M3, nx, zl) K := by
                  intro N3
                  induction N3 with
                  | zero =>
                    intro j M3 hN3
                    omega
                  | succ N3 ih3 =>
                    intro j M3 hN3 hj c1 c2 c3 c5
                    refine s268_219 (d + 20) K _ _ _ ?_
                    refine ⟨by omega, fun w7 => ?_, fun w7 => ?_⟩
                    · have ej : (j : Int) = r := by omega
                      have ed : X.drop (X.length - r.toNat) = sl (M 181) fr j := by
                        have e5 : X = sl (M 181) p (n.toNat - j) ++ sl (M 181) fr j := by
                          have e6 := sl_add (M 181) (n.toNat - j) j p
                          rw [show n.toNat - j + j = n.toNat by omega, hX, show p + ((n.toNat - j : Nat) : Int) = fr by omega] at e6
                          exact e6
                        rw [e5, List.length_append, sl_len, sl_len, show n.toNat - j + j - r.toNat = n.toNat - j by omega, List.drop_append_of_le_length (by rw [sl_len]; exact Nat.le_refl _), List.drop_of_length_le (by rw [sl_len]; exact Nat.le_refl _), List.nil_append]
                      have fl : (dF u ++ X.drop (X.length - r.toNat)).length = (dF u).length + j := by
                        rw [ed, List.length_append, sl_len]
                      refine k M3 (mdaF_t f1 (mdaF_t f2 (mdaF_t f2' ⟨fun c x1 x2 x3 x4 => c1 c x1 (by omega), fun i y1 y2 y3 y4 => c2 i y4, fun c y hc hy => by rw [c1 c (by omega) (by omega)]⟩))) ?_ ?_
                      · rw [ef, ef2]
                        refine ⟨?_, ⟨?_, fun i b hb => ?_⟩, ⟨?_, ?_⟩, ?_, fun i tt htt => ?_⟩
                        · exact rbO_F E1 (by rw [c2 61 (by decide), q2o 168 (by omega) (by omega)]) (by rw [c2 62 (by decide), q2o 168 (by omega) (by omega)]) (by rw [c1 212 (by omega) (by omega), q2o 212 (by omega) (by omega)])
                        · show M3 168 76 = (dB t).length
                          rw [c2 76 (by decide), q2o 168 (by omega) (by omega), ← ub]
                          exact E2
                        · have hb2 : (dB t)[i]? = some b := hb
                          rw [c1 222 (by omega) (by omega), q2o 222 (by omega) (by omega)]
                          rw [← ub] at hb2
                          exact E3 i b hb2
                        · show M3 168 82 = ((dF u ++ X.drop (X.length - r.toNat)).length : Nat)
                          rw [fl, c3]
                          rfl
                        · show sl (M3 225) 0 (dF u ++ X.drop (X.length - r.toNat)).length = dF u ++ X.drop (X.length - r.toNat)
                          rw [fl, ed]
                          exact c5
                        · show M3 168 78 = (dT u).length
                          rw [c2 78 (by decide), q2o 168 (by omega) (by omega)]
                          exact E6
                        · rw [c1 223 (by omega) (by omega), c1 224 (by omega) (by omega), q2o 223 (by omega) (by omega), q2o 224 (by omega) (by omega)]
                          exact E7 i tt htt
                      · rw [ef, ef2]
                        have l0 := LB i
                        rw [← ht] at l0
                        unfold naM
                        show M3 216 x = setN (setN (dN t) 4 x (dT u).length) 5 x (dF u).length 0 x ∧ M3 217 x = setN (setN (dN t) 4 x (dT u).length) 5 x (dF u).length 4 x ∧ M3 218 x = setN (setN (dN t) 4 x (dT u).length) 5 x (dF u).length 5 x ∧ M3 219 x = setN (setN (dN t) 4 x (dT u).length) 5 x (dF u).length 1 x ∧ M3 220 x = setN (setN (dN t) 4 x (dT u).length) 5 x (dF u).length 2 x ∧ M3 221 x = setN (setN (dN t) 4 x (dT u).length) 5 x (dF u).length 3 x
                        rw [setN_at, setN_ne (j2 := 0) (Or.inl (by decide)), setN_ne (j2 := 0) (Or.inl (by decide)), setN_ne (j2 := 4) (Or.inl (by decide)), setN_at, setN_ne (j2 := 1) (Or.inl (by decide)), setN_ne (j2 := 1) (Or.inl (by decide)), setN_ne (j2 := 2) (Or.inl (by decide)), setN_ne (j2 := 2) (Or.inl (by decide)), setN_ne (j2 := 3) (Or.inl (by decide)), setN_ne (j2 := 3) (Or.inl (by decide))]
                        rw [c1 216 (by omega) (by omega), c1 217 (by omega) (by omega), c1 218 (by omega) (by omega), c1 219 (by omega) (by omega), c1 220 (by omega) (by omega), c1 221 (by omega) (by omega), q217, q218, q2o 216 (by omega) (by omega), q2o 219 (by omega) (by omega), q2o 220 (by omega) (by omega), q2o 221 (by omega) (by omega), g2 216 (by omega) (by omega), g2 219 (by omega) (by omega), g2 220 (by omega) (by omega), g2 221 (by omega) (by omega)]
                        exact ⟨N1.1, rfl, rfl, N1.2.2.2.1, N1.2.2.2.2.1, N1.2.2.2.2.2⟩
                    · refine ⟨by omega, ?_⟩
                      refine ⟨by omega, ?_⟩
                      have e3 : M3 181 = M 181 := by rw [c1 181 (by omega) (by omega), q2o 181 (by omega) (by omega), e181']
                      obtain ⟨P1, gp1⟩ : ∃ P1 : FM, P1 = pq M3 225 (M3 168 82) ((M3 181 (fr + j) + 128) % 256 - 128) := ⟨_, rfl⟩
                      obtain ⟨P2, gp2⟩ : ∃ P2 : FM, P2 = pq P1 168 82 (P1 168 82 + 1) := ⟨_, rfl⟩
                      have F := ih3 (j + 1) P2 (by omega) (by omega) (fun c x1 x2 => by rw [gp2, pq_o _ _ _ x1, gp1, pq_o _ _ _ x2, c1 c x1 x2]) (fun i hi => by rw [gp2, pq_ne _ _ _ _ hi, gp1, pq_o _ _ _ (by omega), c2 i hi]) (by
                        rw [gp2, pq_at, gp1, pq_o _ _ _ (by omega), c3]
                        omega) (by
                        rw [show (dF u).length + (j + 1) = (dF u).length + j + 1 by omega, sl_back, sl_back, ← List.append_assoc, ← c5, gp2, pq_o _ _ _ (by omega), gp1]
                        have e8 : (0 : Int) + (((dF u).length + j : Nat) : Int) = M3 168 82 := by omega
                        rw [e8, pq_at]
                        have e9 : sl (pq M3 225 (M3 168 82) ((M3 181 (fr + j) + 128) % 256 - 128) 225) 0 ((dF u).length + j) = sl (M3 225) 0 ((dF u).length + j) := sl_congr _ 0 0 (fun i hi => by rw [pq_ne _ _ _ _ (by omega)])
                        rw [e9, e3, show ((M 181 (fr + j) + 128) % 256 - 128) % 256 = M 181 (fr + j) % 256 by omega])
                      rw [gp2, gp1] at F
                      exact F
                have T1 : (o_al 0 (o_get 12 72 72 (o_il 1 (o_al 0 (o_get 12 82 82 (o_iast (o_ic 0 (o_is 6 (fW (d + 20) kd268 K 219)))))))) : FC) [some (fx 168), some (ti x), some (ti (n / B)), some (ti (n % B)), some (ti ow), some (ti fr), y6] [] (sh, Q1, nx, zl) := by
                  refine ⟨by omega, ?_⟩
                  have F := CP (r.toNat + 1) 0 Q2 (by omega) (by omega) (fun _ _ _ => rfl) (fun _ _ => rfl) (by
                    rw [q2o 168 (by omega) (by omega), E4]
                    omega) (by
                    show sl (Q2 225) 0 (dF u).length = dF u ++ []
                    rw [List.append_nil, q2o 225 (by omega) (by omega)]
                    exact E5)
                  rw [g3] at F
                  exact F
                rw [g1] at T1
                exact T1
              have e82 : M1 168 82 = (dF t).length := D1.2.2.1.1
              refine ⟨by omega, fun w7 => ?_, fun w7 => ?_⟩
              · refine B196 M1 (mdaF_r M1 x) (fun _ _ _ => rfl) ?_
                rw [hu, if_neg (by omega)]
                exact D1
              · refine mcloseFragment_Y (s := t) hop e69 D1 (by omega) (by omega) (by omega) (fun M2 f2 D2 => ?_)
                refine B196 M2 (mcF_da x f2) (fun c c1 c2 => f2.1 c (by omega) (by omega) (by omega) (by omega) (by omega)) ?_
                rw [hu, if_pos (by omega)]
                exact D2
        exact FR _ (by rw [e179, wb])
      · have iw : (i : Int) * B + B ≤ n := by
          have q := Int.mul_le_mul_of_nonneg_right (c := (B : Int)) (show (i : Int) + 1 ≤ n / B by omega) (by omega)
          rw [Int.add_mul, Int.one_mul] at q
          omega
        have ib : (i : Int) * M1 168 68 = (i : Int) * B := by rw [e68]
        have ck : chk X B i = sl (M 181) (p + i * B) B := by
          rw [← hX, chk_sl hn (by omega), show min (B : Int) (n - i * B) = B by omega, Int.toNat_natCast]
        have im : i + 1 ≤ 17 := by omega
        refine ⟨by omega, ?_⟩
        have PB : ∀ pp nn : Int, pp = p + i * B → nn = B → fm_Y (d + 20) 269 [.ref 168, .int (Int32.ofInt x), .int (Int32.ofInt pp), .int (Int32.ofInt nn)] (sh, M1, nx, zl) (fun w h2 => o_inc 5 1 (fW (d + 20) kd268 K 109) [some (fx 168), some (ti x), some (ti (n / B)), some (ti (n % B)), some (ti ow), some (ti i), y6] (w.toList ++ []) h2) := by
          intro pp nn hpp hnn
          rw [hpp, hnn]
          refine mputBlock_Y (s := bkD op B X x (fi0 op B X x s) i) (X := chk X B i) hx hop e69 (by omega) (by omega) (by omega) (by rw [e181, Int.toNat_natCast]; exact ck.symm) D1 (by omega) (by omega) ⟨N1.2.2.2.2.1, N1.2.2.2.2.2⟩ (fun M2 f2 D2 n2 n3 n4 => ?_)
          have l1 := LB (i + 1)
          have l0 := LB i
          refine ih (i + 1) M2 y6 (by omega) (by omega) (mdaF_t f1 f2) D2 ⟨?_, ?_, ?_, ?_, n2, n3⟩
          · rw [n4 216 (by omega) (by omega), l1.1, ← l0.1]
            exact N1.1
          · rw [n4 217 (by omega) (by omega), l1.2.2.1, ← l0.2.2.1]
            exact N1.2.1
          · rw [n4 218 (by omega) (by omega), l1.2.2.2, ← l0.2.2.2]
            exact N1.2.2.1
          · rw [n4 219 (by omega) (by omega), l1.2.1, ← l0.2.1]
            exact N1.2.2.2.1
        exact PB _ _ (by rw [e179, ib]) e68
  -- the numbers, before the blocks
  have B42 : ∀ ow : Int, (ow = 1 ∧ op / 4 % 2 ≠ 0 ∧ 0 < n % B ∨ ow = 0 ∧ (op / 4 % 2 = 0 ∨ n % B = 0)) → b268_42 (d + 20) (fW (d + 20) kd268 K) K [some (fx 168), some (ti x), some (ti (n / B)), some (ti (n % B)), none, none, none] [ti ow] (sh, M, nx, zl) := by
    intro ow how
    obtain ⟨D1, ⟨D2, D3⟩, ⟨D4, D5⟩, D6, D7⟩ := id hD
    have e61 : M 168 61 = (dI s).length := D1.2.1
    have owr : 0 ≤ ow ∧ ow ≤ 1 := by
      rcases how with ⟨q, _⟩ | ⟨q, _⟩ <;> omega
    have pos : 0 < bkN op B n ↔ (0 < n / B ∨ ow = 1) := by
      rcases how with ⟨o1, o2, o3⟩ | ⟨o1, o2⟩
      · have W2 := (W1 o2).1
        rw [if_pos o3] at W2
        omega
      · by_cases c4 : op / 4 % 2 = 0
        · have := (W0 c4).1
          omega
        · have W2 := (W1 c4).1
          rw [if_neg (by omega)] at W2
          omega
    refine ⟨by omega, ?_⟩
    refine ⟨by omega, ?_⟩
    refine ⟨by omega, ?_⟩
    obtain ⟨Q1, g1⟩ : ∃ Q1 : FM, Q1 = pq M 219 x (M 168 76) := ⟨_, rfl⟩
    obtain ⟨Q2, g2⟩ : ∃ Q2 : FM, Q2 = pq Q1 220 x 0 := ⟨_, rfl⟩
    obtain ⟨Q3, g3⟩ : ∃ Q3 : FM, Q3 = pq Q2 221 x 0 := ⟨_, rfl⟩
    have q3o : ∀ c : Nat, c ≠ 219 → c ≠ 220 → c ≠ 221 → Q3 c = M c := fun c c1 c2 c3 => by rw [g3, pq_o _ _ _ c3, g2, pq_o _ _ _ c2, g1, pq_o _ _ _ c1]
    have v219 : Q3 219 x = (dB s).length := by
      rw [g3, pq_o _ _ _ (by omega), g2, pq_o _ _ _ (by omega), g1, pq_at]
      exact D2
    have v220 : Q3 220 x = 0 := by rw [g3, pq_o _ _ _ (by omega), g2, pq_at]
    have v221 : Q3 221 x = 0 := by rw [g3, pq_at]
    have B91 : ∀ v : Int, v = (if 0 < bkN op B n then ((dI s).length : Int) else 0) → b268_91 (d + 20) (fW (d + 20) kd268 K) K [some (fx 168), some (ti x), some (ti (n / B)), some (ti (n % B)), some (ti ow), none, none] [tj v, ti x, fx 216] (sh, Q3, nx, zl) := by
      intro v hv
      refine ⟨by omega, ?_⟩
      refine ⟨by omega, ?_⟩
      refine ⟨by omega, ?_⟩
      obtain ⟨Q4, g4⟩ : ∃ Q4 : FM, Q4 = pq Q3 216 x v := ⟨_, rfl⟩
      obtain ⟨Q5, g5⟩ : ∃ Q5 : FM, Q5 = pq Q4 217 x (-1) := ⟨_, rfl⟩
      obtain ⟨Q6, g6⟩ : ∃ Q6 : FM, Q6 = pq Q5 218 x 0 := ⟨_, rfl⟩
      have q6o : ∀ c : Nat, c ≠ 216 → c ≠ 217 → c ≠ 218 → Q6 c = Q3 c := fun c c1 c2 c3 => by rw [g6, pq_o _ _ _ c3, g5, pq_o _ _ _ c2, g4, pq_o _ _ _ c1]
      have q6x : ∀ (c : Nat) (y : Int), y ≠ x → Q6 c y = M c y := by
        intro c y hy
        have a1 : ∀ (P : FM) (c2 : Nat) (v2 : Int), pq P c2 x v2 c y = P c y := fun P c2 v2 => by
          by_cases e : c = c2
          · rw [e, pq_ne _ _ _ _ hy]
          · rw [pq_o _ _ _ e]
        rw [g6, a1, g5, a1, g4, a1, g3, a1, g2, a1, g1, a1]
      have o : ∀ c : Nat, (c < 216 ∨ 221 < c) → Q6 c = M c := fun c hc => by rw [q6o c (by omega) (by omega) (by omega), q3o c (by omega) (by omega) (by omega)]
      have F := LOOP ow how ((n / B).toNat + 1) 0 Q6 none (by omega) (by omega) ⟨fun c c1 c2 c3 c4 => o c (by omega), fun j _ _ _ _ => by rw [o 168 (by omega)], fun c y _ hy => q6x c y hy⟩ (by
        show daM Q6 (fi0 op B X x s)
        have := daM_F hD (M2 := Q6) (fun c hc => o c (by omega)) (fun j _ => by rw [o 168 (by omega)])
        exact this) (by
        show naM Q6 (dN (fi0 op B X x s)) x
        refine ⟨?_, ?_, ?_, ?_, ?_, ?_⟩
        · rw [f0.1, g6, pq_o _ _ _ (by omega), g5, pq_o _ _ _ (by omega), g4, pq_at]
          exact hv
        · rw [f0.2.2.1, g6, pq_o _ _ _ (by omega), g5, pq_at]
        · rw [f0.2.2.2, g6, pq_at]
        · rw [f0.2.1, q6o 219 (by omega) (by omega) (by omega)]
          exact v219
        · rw [i5.1, q6o 220 (by omega) (by omega) (by omega)]
          exact v220
        · rw [i5.2, q6o 221 (by omega) (by omega) (by omega)]
          exact v221)
      rw [g6, g5, g4] at F
      exact F
    have T3 : (o_al 0 (o_get 12 70 70 (o_il 1 (o_il 2 (o_if .gt (b268_82 (d + 20) (fW (d + 20) kd268 K) K) (o_il 4 (o_if .eq (o_lc 0 (b268_91 (d + 20) (fW (d + 20) kd268 K) K)) (b268_82 (d + 20) (fW (d + 20) kd268 K) K))))))) : FC) [some (fx 168), some (ti x), some (ti (n / B)), some (ti (n % B)), some (ti ow), none, none] [] (sh, Q3, nx, zl) := by
      have e61' : Q3 168 61 = (dI s).length := by rw [q3o 168 (by omega) (by omega) (by omega)]; exact e61
      have B82 : 0 < bkN op B n → b268_82 (d + 20) (fW (d + 20) kd268 K) K [some (fx 168), some (ti x), some (ti (n / B)), some (ti (n % B)), some (ti ow), none, none] [ti x, fx 216] (sh, Q3, nx, zl) := by
        intro hh
        refine ⟨by omega, ?_⟩
        exact B91 (Q3 168 61) (by rw [if_pos hh]; exact e61')
      refine ⟨by omega, fun w5 => B82 (pos.2 (Or.inl (by omega))), fun w5 => ?_⟩
      refine ⟨by omega, fun w6 => ?_, fun w6 => B82 (pos.2 (Or.inr (by omega)))⟩
      refine B91 0 ?_
      rw [if_neg (fun q => by
        rcases pos.1 q with z | z <;> omega)]
    rw [g3, g2, g1] at T3
    exact T3
  refine ⟨by omega, fun w => B42 0 (Or.inr ⟨rfl, Or.inl (by omega)⟩), fun w => ?_⟩
  refine ⟨by omega, fun w5 => B42 0 (Or.inr ⟨rfl, Or.inr (by omega)⟩), fun w5 => B42 1 (Or.inl ⟨rfl, by omega, by omega⟩)⟩
end MDATA3
