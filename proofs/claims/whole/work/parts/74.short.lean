/-! CALLS of both: feed, end, out, outWord -/
theorem rowS_4 (sh : Nat → Option Shp) : rowS sh 4 5 16384 := ⟨⟨rfl, rfl⟩, by decide, by decide, by decide, by decide⟩
theorem rowS_6 (sh : Nat → Option Shp) : rowS sh 6 7 16384 := ⟨⟨rfl, rfl⟩, by decide, by decide, by decide, by decide⟩
theorem tb4_sl {f g : Int → Int} {t x : Int} (h0 : 0 ≤ t) (h : sl f 0 t.toNat = sl g 0 t.toNat) : sl (tb4 f t x) 0 (t + 4).toNat = sl (tb4 g t x) 0 (t + 4).toNat := by
  refine sl_congr _ _ _ (fun i hi => ?_)
  have q := sl_inj _ _ _ h
  unfold tb4 ur
  by_cases e3 : (0 : Int) + i = t + 3
  · rw [if_pos e3, if_pos e3]
  · rw [if_neg e3, if_neg e3]
    by_cases e2 : (0 : Int) + i = t + 2
    · rw [if_pos e2, if_pos e2]
    · rw [if_neg e2, if_neg e2]
      by_cases e1 : (0 : Int) + i = t + 1
      · rw [if_pos e1, if_pos e1]
      · rw [if_neg e1, if_neg e1]
        by_cases e0 : (0 : Int) + i = t
        · rw [if_pos e0, if_pos e0]
        · rw [if_neg e0, if_neg e0]
          exact q i (by omega)
theorem tb20_sl {f g : Int → Int} {t a b c e x : Int} (h0 : 0 ≤ t) (h : sl f 0 t.toNat = sl g 0 t.toNat) : sl (tb20 f t a b c e x) 0 (t + 20).toNat = sl (tb20 g t a b c e x) 0 (t + 20).toNat := by
  unfold tb20
  have h1 := tb4_sl (x := a) h0 h
  have h2 := tb4_sl (x := b) (by omega) h1
  rw [show t + 4 + 4 = t + 8 by omega] at h2
  have h3 := tb4_sl (x := c) (by omega) h2
  rw [show t + 8 + 4 = t + 12 by omega] at h3
  have h4 := tb4_sl (x := e) (by omega) h3
  rw [show t + 12 + 4 = t + 16 by omega] at h4
  have h5 := tb4_sl (x := x) (by omega) h4
  rw [show t + 16 + 4 = t + 20 by omega] at h5
  exact h5
section SHORT
variable {V : FM → Prop} {L d : Nat} {xs : Nat → Int32}
theorem putH_M {d nx zl a b n : Nat} {K : Option TV → FH → Prop} {sh : Nat → Option Shp} {M : FM} {x : Int} (hr : rowS sh a b n) (hx : -2147483648 ≤ x ∧ x ≤ 2147483647) (h0 : 0 ≤ M a 1) (h1 : M a 1 + 4 ≤ n) (k : K none (sh, rowW M a b (tb4 (M b) (M a 1) x) (M a 1 + 4) (M a 2), nx, zl)) : fm_Y (d + 2) 18 [.ref a, .int (Int32.ofInt x)] (sh, M, nx, zl) K := by
  have q := putH_R (d := d) (M := M) (s := M a 1) (o := M a 2) (f := M b) hr hx h0 h1 k
  rw [rowW_self] at q
  exact q
/-- the relation again, when only tape and out have changed -/
theorem RR_to {k nx zl : Nat} {sh : Nat → Option Shp} {M M2 : FM} (hV : keepsV V) (hR : RR V L xs k (sh, M, nx, zl)) (hc : ∀ c : Nat, c ≠ 3 → c ≠ 4 → c ≠ 5 → c ≠ 6 → c ≠ 7 → c ≠ 168 → c ≠ 169 → c ≠ 170 → M2 c = M c) (h168 : ∀ i : Int, i ≠ 1 → i ≠ 2 → i ≠ 4 → M2 168 i = M 168 i) (h3 : M2 3 6 = M 3 6 ∧ M2 3 7 = M 3 7) (ht : tapeR M2) (ho : outR M2) : RR V L xs (k + 1) (sh, M2, nx, zl) := by
  obtain ⟨hBase, -, -, hT, hv⟩ := hR
  refine ⟨baseR_up hBase (hc 0 (by decide) (by decide) (by decide) (by decide) (by decide) (by decide) (by decide) (by decide)), ht, ho, ?_, ?_⟩
  · exact treeR_same hT (fun c h => hc c (by omega) (by omega) (by omega) (by omega) (by omega) (by omega) (by omega) (by omega)) (fun i h1 h2 => h168 i (by omega) (by omega) (by omega))
  · exact hV M M2 hv ⟨fun c h => hc c (by omega) (by omega) (by omega) (by omega) (by omega) (by omega) (by omega) (by omega), fun i h => h168 i (by omega) (by omega) (by omega), h3⟩
theorem call_feed (hV : keepsV V) {a b c e g : Int} (ha : -2147483648 ≤ a ∧ a ≤ 2147483647) (hb : -2147483648 ≤ b ∧ b ≤ 2147483647) (hc : -2147483648 ≤ c ∧ c ≤ 2147483647) (he : -2147483648 ≤ e ∧ e ≤ 2147483647) (hg : -2147483648 ≤ g ∧ g ≤ 2147483647) : ca_I V L xs (d + 3) 17 239 [.int (Int32.ofInt a), .int (Int32.ofInt b), .int (Int32.ofInt c), .int (Int32.ofInt e), .int (Int32.ofInt g)] := by
  intro k H hR
  obtain ⟨sh, M, nx, zl⟩ := H
  have hR0 := hR
  obtain ⟨hBase, ⟨⟨t1, t2⟩, t3, t4, t5, t6⟩, ⟨⟨o1, o2⟩, o3, o4⟩, hT, hv⟩ := hR
  dsimp only at t1 t2 t3 t4 t5 t6 o1 o2 o3 o4
  refine m17 [fx 3, ti a, ti b, ti c, ti e, ti g] ?_
  refine ⟨by omega, fun w => ?_, fun w => ?_⟩
  · refine putH_M (rowS_4 sh) ha (by omega) (by omega) ?_
    refine putH_R (rowS_4 sh) hb (by omega) (by omega) ?_
    refine putH_R (rowS_4 sh) hc (by omega) (by omega) ?_
    refine putH_R (rowS_4 sh) he (by omega) (by omega) ?_
    refine putH_R (rowS_4 sh) hg (by omega) (by omega) ?_
    refine ⟨Or.inr rfl, ?_⟩
    refine ⟨M 168 1 + 20, ?_, ⟨rfl, rfl⟩, ?_⟩
    · show some (ti (M 4 1 + 4 + 4 + 4 + 4 + 4)) = _
      rw [t3, show M 168 1 + 4 + 4 + 4 + 4 + 4 = M 168 1 + 20 by omega]
    · generalize hM1 : um (rowW M 4 5 (tb4 (tb4 (tb4 (tb4 (tb4 (M 5) (M 4 1) a) (M 4 1 + 4) b) (M 4 1 + 4 + 4) c) (M 4 1 + 4 + 4 + 4) e) (M 4 1 + 4 + 4 + 4 + 4) g) (M 4 1 + 4 + 4 + 4 + 4 + 4) (M 4 2)) 3 (ur (rowW M 4 5 (tb4 (tb4 (tb4 (tb4 (tb4 (M 5) (M 4 1) a) (M 4 1 + 4) b) (M 4 1 + 4 + 4) c) (M 4 1 + 4 + 4 + 4) e) (M 4 1 + 4 + 4 + 4 + 4) g) (M 4 1 + 4 + 4 + 4 + 4 + 4) (M 4 2) 3) 5 1) = M1
      have u3 : M1 3 = ur (M 3) 5 1 := by rw [← hM1]; rfl
      have u4 : M1 4 1 = M 168 1 + 20 := by
        rw [← hM1]
        show M 4 1 + 4 + 4 + 4 + 4 + 4 = _
        omega
      have u5 : M1 5 = tb20 (M 5) (M 168 1) a b c e g := by
        rw [← hM1]
        show tb4 (tb4 (tb4 (tb4 (tb4 (M 5) (M 4 1) a) (M 4 1 + 4) b) (M 4 1 + 4 + 4) c) (M 4 1 + 4 + 4 + 4) e) (M 4 1 + 4 + 4 + 4 + 4) g = _
        unfold tb20
        rw [t3, show M 168 1 + 4 + 4 = M 168 1 + 8 by omega, show M 168 1 + 8 + 4 = M 168 1 + 12 by omega, show M 168 1 + 12 + 4 = M 168 1 + 16 by omega]
      have uo : ∀ c : Nat, c ≠ 3 → c ≠ 4 → c ≠ 5 → M1 c = M c := by
        intro c q1 q2 q3
        rw [← hM1, um_ne q1, rowW_o q2 q3]
      have e168 := uo 168 (by decide) (by decide) (by decide)
      have e169 := uo 169 (by decide) (by decide) (by decide)
      have q := mfeed (d := d + 1) (nx := nx) (sl := zl) (sh := sh) (M := M1) (f := M1 169) (t := M1 168 1) (K := fun w2 H2 => w2 = some (ti (M 168 1 + 20)) ∧ RR V L xs (k + 1) H2) ha hb hc he hg (by rw [e168]; omega) (by rw [e168]; omega) (fun w2 => by rw [e168] at w2; omega) (fun w2 => ?_)
      · rw [mtS_self] at q
        exact q
      · rw [e168, e169]
        refine ⟨rfl, RR_to hV hR0 ?_ ?_ ?_ ?_ ?_⟩
        · intro c q1 q2 q3 q4 q5 q6 q7 q8
          unfold mtS
          rw [um_ne q6, um_ne q6, um_ne q7]
          exact uo c q1 q2 q3
        · intro i q1 q2 q3
          rw [um_at, ur_ne q2, ur_ne q1]
        · show M1 3 6 = _ ∧ M1 3 7 = _
          rw [u3]
          exact ⟨rfl, rfl⟩
        · refine ⟨?_, ?_, ?_, ?_, ?_⟩
          · show 0 ≤ M 168 1 + 20 ∧ M 168 1 + 20 ≤ 16384
            omega
          · show M1 4 1 = M 168 1 + 20
            exact u4
          · show sl (M1 5) 0 (M 168 1 + 20).toNat = sl (tb20 (M 169) (M 168 1) a b c e g) 0 (M 168 1 + 20).toNat
            rw [u5]
            exact tb20_sl t1 t4
          · show M1 3 5 % 2 = 1 % 2
            rw [u3]
            rfl
          · intro _
            show 20 ≤ M 168 1 + 20
            omega
        · refine ⟨?_, ?_, ?_⟩
          · show 0 ≤ M 168 4 ∧ M 168 4 ≤ 16384
            exact ⟨o1, o2⟩
          · show M1 6 1 = M 168 4
            rw [uo 6 (by decide) (by decide) (by decide)]
            exact o3
          · show sl (M1 7) 0 (M 168 4).toNat = sl (M1 170) 0 (M 168 4).toNat
            rw [uo 7 (by decide) (by decide) (by decide), uo 170 (by decide) (by decide) (by decide)]
            exact o4
  · refine ⟨-6, rfl, ⟨rfl, rfl⟩, ?_⟩
    have q := mfeed (d := d + 1) (nx := nx) (sl := zl) (sh := sh) (M := M) (f := M 169) (t := M 168 1) (K := fun w2 H2 => w2 = some (ti (-6)) ∧ RR V L xs (k + 1) H2) ha hb hc he hg t1 t2 (fun _ => ?_) (fun w2 => by omega)
    · rw [mtS_self] at q
      exact q
    · rw [mtS_self]
      exact ⟨rfl, baseR_up hBase rfl, ⟨⟨t1, t2⟩, t3, t4, t5, t6⟩, ⟨⟨o1, o2⟩, o3, o4⟩, hT, hv⟩
theorem call_out : ca_I V L xs (d + 1) 21 242 [] := by
  intro k H hR
  obtain ⟨sh, M, nx, zl⟩ := H
  obtain ⟨hBase, ht, ⟨⟨o1, o2⟩, o3, o4⟩, hT, hv⟩ := hR
  refine m21 [fx 3] ?_
  refine ⟨M 168 4, ?_, ⟨rfl, rfl⟩, ?_⟩
  · show some (ti (M 6 1)) = _
    rw [show M 6 1 = M 168 4 from o3]
  · exact mout ⟨rfl, baseR_up hBase rfl, ht, ⟨⟨o1, o2⟩, o3, o4⟩, hT, hv⟩
theorem wd8_congr {f g : Int → Int} {s i : Int} (h : sl f 0 s.toNat = sl g 0 s.toNat) : wd8 f s i = wd8 g s i := by
  have q := sl_inj _ _ _ h
  have e : ∀ k : Int, 0 ≤ k → wd f s i k = wd g s i k := by
    intro k hk
    unfold wd
    by_cases hc : 0 ≤ i ∧ 8 * i + k < s
    · rw [if_pos hc, if_pos hc]
      have z := q (8 * i + k).toNat (by omega)
      rw [show (0 : Int) + (((8 * i + k).toNat : Nat) : Int) = 8 * i + k by omega] at z
      exact z
    · rw [if_neg hc, if_neg hc]
  unfold wd8
  rw [e 0 (by omega), e 1 (by omega), e 2 (by omega), e 3 (by omega), e 4 (by omega), e 5 (by omega), e 6 (by omega), e 7 (by omega)]
theorem call_outWord {i : Int} (hi : -2147483648 ≤ i ∧ i ≤ 2147483647) : ca_J V L xs (d + 2) 22 243 [.int (Int32.ofInt i)] := by
  intro k H hR
  obtain ⟨sh, M, nx, zl⟩ := H
  have hR0 := hR
  obtain ⟨hBase, ht, ⟨⟨o1, o2⟩, o3, o4⟩, hT, hv⟩ := hR
  dsimp only at o1 o2 o3 o4
  refine m22 [fx 3, ti i] ?_
  refine word_Y (rowS_6 sh) hi (by omega) (by omega) (by omega) ?_
  refine ⟨wd8 (M 7) (M 6 1) i, rfl, ⟨rfl, rfl⟩, ?_⟩
  refine m243 [fx 168, ti i] ?_
  refine meight_Y (a := 170) (n := 16384) rfl hi o1 o2 (by omega) ?_
  refine ⟨?_, baseR_up hBase rfl, ht, ⟨⟨o1, o2⟩, o3, o4⟩, hT, hv⟩
  rw [o3, wd8_congr o4]
end SHORT
