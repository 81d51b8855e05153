/-! UNPACKING, the reference: readMade, once something is wrong; the tellers -/
section VMADE
variable {d nx zl : Nat} {K : Option TV → FH → Prop} {sh : Nat → Option Shp} {M0 M : FM} {sc tc nS nT : Nat} {h e c n t s : Int}
theorem vR_up {R : FM} {st : St} (hR : vR M0 M tc st) (h1 : ∀ c : Nat, c = 168 ∨ c = tc → R c = M c) (h2 : ∀ c : Nat, (c < 195 ∨ 210 < c) → R c = M c) : vR M0 R tc st := by
  have hK := vR_K hR
  have e1 := h1 168 (Or.inl rfl)
  have e2 := h1 tc (Or.inr rfl)
  have hK2 : vK M0 R tc := by
    unfold vK
    rw [e1, e2]
    exact ⟨hK.1, hK.2.1, fun c a b e => (h2 c e).trans (hK.2.2 c a b e)⟩
  cases st with
  | none =>
    refine ⟨hK2, ?_⟩
    rw [e1]
    exact hR.2
  | some q =>
    obtain ⟨p, o⟩ := q
    refine ⟨hK2, ?_⟩
    rw [e1, e2]
    exact hR.2
theorem tc_far (hC : vC sh M0 sc tc nS nT) : tc ≠ 168 ∧ (tc < 195 ∨ 210 < tc) := hC.2.1.2.2.1
theorem mX425 {y3 y4 y5 y6 y7 : Option TV} (hC : vC sh M0 sc tc nS nT) (hR : vR M0 M tc none) (k : ∀ M2 : FM, vR M0 M2 tc none → K none (sh, M2, nx, zl)) : b339_425 d (fW d kd339 K) K [some (fx 168), some (ti h), some (ti e), y3, y4, y5, y6, y7] [] (sh, M, nx, zl) := by
  have hf := hR.2.1
  refine ⟨by omega, fun w => ?_, fun w => by omega⟩
  refine ⟨Or.inr rfl, ?_⟩
  exact k _ (vW1 (tc_far hC).1 hR).1
theorem mX346 {q : Int} {y3 y4 y6 y7 : Option TV} (hC : vC sh M0 sc tc nS nT) (hq : 0 ≤ q ∧ q ≤ 1000) (hR : vR M0 M tc none) (k : ∀ M2 : FM, vR M0 M2 tc none → K none (sh, M2, nx, zl)) : fm_X d kd339 346 [some (fx 168), some (ti h), some (ti e), y3, y4, some (ti q), y6, y7] [] (sh, M, nx, zl) K := by
  have hf := hR.2.1
  refine s339_346 d K _ _ _ ?_
  refine ⟨by omega, fun w => mX425 hC hR k, fun w => ?_⟩
  exact ⟨by omega, fun w => mX425 hC hR k, fun w => by omega⟩
theorem mX139 {y5 y6 y7 : Option TV} (hC : vC sh M0 sc tc nS nT) (hn : (0 ≤ n ∧ n ≤ 1000) ∧ (0 ≤ h ∧ h ≤ 1000) ∧ (0 ≤ e ∧ e ≤ 1000)) (hR : vR M0 M tc none) (k : ∀ M2 : FM, vR M0 M2 tc none → K none (sh, M2, nx, zl)) : fm_X d kd339 139 [some (fx 168), some (ti h), some (ti e), some (ti c), some (ti n), y5, y6, y7] [] (sh, M, nx, zl) K := by
  have hf := hR.2.1
  refine s339_139 d K _ _ _ ?_
  refine ⟨by omega, fun w => mX346 hC (by omega) hR k, fun w => ?_⟩
  exact ⟨by omega, fun w => mX346 hC (by omega) hR k, fun w => by omega⟩
theorem mX278 {q : Int} (hC : vC sh M0 sc tc nS nT) (hn : (0 ≤ n ∧ n ≤ 1000) ∧ (0 ≤ h ∧ h ≤ 1000) ∧ (0 ≤ e ∧ e ≤ 1000)) (hq : (0 ≤ q ∧ q ≤ 1000) ∧ (0 ≤ t ∧ t ≤ 1000)) (hR : vR M0 M tc none) (k : ∀ M2 : FM, vR M0 M2 tc none → K none (sh, M2, nx, zl)) : fm_X d kd339 278 [some (fx 168), some (ti h), some (ti e), some (ti c), some (ti n), some (ti s), some (ti t), some (ti q)] [] (sh, M, nx, zl) K := by
  have hf := hR.2.1
  refine s339_278 d K _ _ _ ?_
  refine ⟨by omega, fun w => mX139 hC hn hR k, fun w => ?_⟩
  exact ⟨by omega, fun w => mX139 hC hn hR k, fun w => by omega⟩
theorem mX267 {st : St} {y7 : Option TV} (hC : vC sh M0 sc tc nS nT) (hn : (0 ≤ n ∧ n ≤ 1000) ∧ (0 ≤ h ∧ h ≤ 1000) ∧ (0 ≤ e ∧ e ≤ 1000)) (ht : 0 ≤ t ∧ t ≤ 1000) (hR : vR M0 M tc st) (k : ∀ M2 : FM, vR M0 M2 tc none → K none (sh, M2, nx, zl)) : b339_267 d (fW d kd339 K) K [some (fx 168), some (ti h), some (ti e), some (ti c), some (ti n), some (ti s), some (ti t), y7] [fx 168] (sh, M, nx, zl) := by
  refine ⟨Or.inr rfl, ?_⟩
  exact mX278 hC hn ⟨by omega, ht⟩ (vW1 (tc_far hC).1 hR).1 k
theorem mX246 {y6 y7 : Option TV} (hC : vC sh M0 sc tc nS nT) (hn : (0 ≤ n ∧ n ≤ 1000) ∧ (0 ≤ h ∧ h ≤ 1000) ∧ (0 ≤ e ∧ e ≤ 1000)) (ht : 0 ≤ t ∧ t ≤ 1000) (hR : vR M0 M tc none) (k : ∀ M2 : FM, vR M0 M2 tc none → K none (sh, M2, nx, zl)) : b339_246 d (fW d kd339 K) K [some (fx 168), some (ti h), some (ti e), some (ti c), some (ti n), some (ti s), y6, y7] [ti t] (sh, M, nx, zl) := by
  have hf := hR.2.1
  refine ⟨by omega, fun w => ?_, fun w => by omega⟩
  exact mX267 hC hn ht hR k
theorem mX184 {st : St} {y6 y7 : Option TV} (hC : vC sh M0 sc tc nS nT) (hn : (0 ≤ n ∧ n ≤ 1000) ∧ (0 ≤ h ∧ h ≤ 1000) ∧ (0 ≤ e ∧ e ≤ 1000)) (hs : 0 ≤ s ∧ s ≤ 1000) (hR : vR M0 M tc st) (k : ∀ M2 : FM, vR M0 M2 tc none → K none (sh, M2, nx, zl)) : b339_184 (d + 2) (fW (d + 2) kd339 K) K [some (fx 168), some (ti h), some (ti e), some (ti c), some (ti n), some (ti s), y6, y7] [fx 168] (sh, M, nx, zl) := by
  refine ⟨Or.inr rfl, ?_⟩
  have z := (vW1 (tc_far hC).1 hR).1
  have e4 : (2 : Int) ^ 2 = 4 := by decide
  have e8 : (2 : Int) ^ 3 = 8 := by decide
  have e128 : (2 : Int) ^ 7 = 128 := by decide
  refine ⟨by omega, fun w => ?_, fun w => ?_⟩
  · refine ⟨by omega, fun w2 => ?_, fun w2 => ?_⟩
    · refine ⟨by omega, fun w3 => ?_, fun w3 => ?_⟩
      · exact mX246 hC hn (by omega) z k
      · refine readNumber_Y (n := 7) hC z (by omega) (fun v M2 a1 a2 a3 a4 => ?_)
        exact mX246 hC hn (by omega) a1 k
    · refine readNumber_Y (n := 3) hC z (by omega) (fun v M2 a1 a2 a3 a4 => ?_)
      exact mX246 hC hn (by omega) a1 k
  · refine readNumber_Y (n := 2) hC z (by omega) (fun v M2 a1 a2 a3 a4 => ?_)
    exact mX246 hC hn (by omega) a1 k
theorem mX128 {st : St} {y4 y5 y6 y7 : Option TV} (hC : vC sh M0 sc tc nS nT) (hn : (0 ≤ h ∧ h ≤ 1000) ∧ (0 ≤ e ∧ e ≤ 1000)) (hR : vR M0 M tc st) (k : ∀ M2 : FM, vR M0 M2 tc none → K none (sh, M2, nx, zl)) : b339_128 d (fW d kd339 K) K [some (fx 168), some (ti h), some (ti e), some (ti c), y4, y5, y6, y7] [fx 168] (sh, M, nx, zl) := by
  refine ⟨Or.inr rfl, ?_⟩
  exact mX139 hC (by omega) (vW1 (tc_far hC).1 hR).1 k
theorem smallOrder_Y {H : FH} {i : Int} (h0 : 0 ≤ i) (h1 : i < 19) (k : K (some (ti (tel i))) H) : fm_Y (d + 1) 290 [.int (Int32.ofInt i)] H K := by
  refine m290 [ti i] ?_
  unfold tel at k
  refine ⟨by omega, fun w => ?_, fun w => ?_⟩
  · rw [if_neg w] at k
    refine ⟨by omega, fun w2 => ?_, fun w2 => ?_⟩
    · rw [if_neg w2] at k
      refine ⟨by omega, fun w3 => ?_, fun w3 => ?_⟩
      · rw [if_neg w3] at k
        refine ⟨by omega, fun w4 => ?_, fun w4 => ?_⟩
        · rw [if_neg w4] at k
          refine ⟨by omega, ?_⟩
          refine ⟨by omega, fun w5 => ?_, fun w5 => ?_⟩
          · rw [if_neg w5] at k
            exact ⟨by omega, k⟩
          · rw [if_pos (by omega)] at k
            exact ⟨by omega, k⟩
        · rw [if_pos (by omega)] at k
          exact k
      · rw [if_pos (by omega)] at k
        exact k
    · rw [if_pos (by omega)] at k
      exact k
  · rw [if_pos (by omega)] at k
    exact k
theorem mX58 {y5 y6 y7 : Option TV} (hC : vC sh M0 sc tc nS nT) (hn : (0 ≤ h ∧ h ≤ 1000) ∧ (0 ≤ e ∧ e ≤ 1000) ∧ (0 ≤ c ∧ c ≤ 100)) (k : ∀ M2 : FM, vR M0 M2 tc none → K none (sh, M2, nx, zl)) : ∀ (N i : Nat) (M2 : FM), i + N = 19 → vR M0 M2 tc none → fm_X (d + 2) kd339 58 [some (fx 168), some (ti h), some (ti e), some (ti c), some (ti i), y5, y6, y7] [] (sh, M2, nx, zl) K := by
  have tf := tc_far hC
  intro N
  induction N with
  | zero =>
    intro i M2 a1 a2
    have hf := a2.2.1
    refine s339_58 (d + 2) K _ _ _ ?_
    refine ⟨by omega, fun w => ?_, fun w => by omega⟩
    refine ⟨by omega, fun w2 => ?_, fun w2 => by omega⟩
    exact mX128 hC (by omega) a2 k
  | succ N ih =>
    intro i M2 a1 a2
    refine s339_58 (d + 2) K _ _ _ ?_
    refine ⟨by omega, fun w => by omega, fun w => ?_⟩
    refine smallOrder_Y (by omega) (by omega) ?_
    have r := tel_rng (i := i) (by omega) (by omega)
    have ST : ∀ (M3 : FM) (v : Int), vR M0 M3 tc none → b339_93 (d + 2) (fW (d + 2) kd339 K) K [some (fx 168), some (ti h), some (ti e), some (ti c), some (ti i), y5, y6, y7] [ti v, ti (320 + tel i), fx 210] (sh, M3, nx, zl) := by
      intro M3 v h3
      refine ⟨by omega, ?_⟩
      exact ih (i + 1) _ (by omega) (vR_up h3 (fun c hc => by rw [um_ne (by omega)]) (fun c hc => by rw [um_ne (by omega)]))
    refine ⟨by omega, fun w2 => ST M2 0 a2, fun w2 => ?_⟩
    refine readNumber_Y (n := 3) hC a2 (by omega) (fun v M3 t1 t2 t3 t4 => ?_)
    exact ST M3 v t1
theorem rm58 {p : Int} {o : List Int} {y5 y6 y7 : Option TV} (hC : vC sh M0 sc tc nS nT) (hc : 0 ≤ c ∧ c ≤ 19) (hh : 0 ≤ h ∧ h ≤ 1000) (he : 0 ≤ e ∧ e ≤ 1000)
    (k0 : ∀ M2 : FM, ¬ (p + 3 * c ≤ vE M0 ∧ okL (tlS (M0 sc) p c) 19 0) → vR M0 M2 tc none → K none (sh, M2, nx, zl))
    (k1 : ∀ M2 : FM, p + 3 * c ≤ vE M0 → okL (tlS (M0 sc) p c) 19 0 → vR M0 M2 tc (some (p + 3 * c, o)) → trV (M2 209) (tlS (M0 sc) p c) 19 15 0 0 0 0 → fm_X (d + 2) kd339 139 [some (fx 168), some (ti h), some (ti e), some (ti c), some (ti 0), y5, y6, y7] [] (sh, M2, nx, zl) K) : ∀ (N i : Nat) (M2 : FM) (g : Int → Int), i + N = 19 → vR M0 M2 tc (some (p + 3 * (if (i : Int) < c then (i : Int) else c), o)) → (∀ t : Int, 0 ≤ t → t < 19 → M2 210 (320 + t) = tlU (M0 sc) p c g i t) → fm_X (d + 2) kd339 58 [some (fx 168), some (ti h), some (ti e), some (ti c), some (ti i), y5, y6, y7] [] (sh, M2, nx, zl) K := by
  have tf := tc_far hC
  intro N
  induction N with
  | zero =>
    intro i M2 g a1 a2 a3
    rw [if_neg (by omega)] at a2
    have hf := a2.2.1.2.1
    have y1 := a2.2.1.1
    have y2 := a2.2.2.1
    have pE : p + 3 * c ≤ vE M0 := by
      unfold vE
      omega
    refine s339_58 (d + 2) K _ _ _ ?_
    refine ⟨by omega, fun w => ?_, fun w => by omega⟩
    refine ⟨by omega, fun w2 => by omega, fun w2 => ?_⟩
    have ei : i = 19 := by omega
    rw [ei] at a3
    refine mmake2_Y (ls := tlS (M0 sc) p c) (n := 19) (nF := 339) (z := 0) (tr208 sh) rfl (by decide) (by omega) (by omega) (by omega) (fun s hs => ?_) (Or.inl rfl) (fun r M3 q1 q2 => ?_)
    · have e1 := a3 s (by omega) (by omega)
      rw [tlU_S (M0 sc) p c g (by omega) (by omega)] at e1
      exact ⟨e1, tlU_rng (M0 sc) p c s 19⟩
    · have hR3 : vR M0 M3 tc (some (p + 3 * c, o)) := vR_up a2 (fun c hc => q2 c (by omega) (by omega)) (fun c hc => q2 c (by omega) (by omega))
      rcases q1 with ⟨q1, q4, q5⟩ | ⟨q1, q4⟩
      · rw [q1]
        refine ⟨by omega, fun _ => ?_, fun z => by omega⟩
        refine ⟨Or.inl rfl, ?_⟩
        have hf3 := hR3.2.1.2.1
        obtain ⟨z1, z2⟩ := vW0 tf.1 hR3 hf3
        exact k1 _ pE q4 z1 (by rw [um_ne (by decide)]; exact q5)
      · rw [q1]
        refine ⟨by omega, fun z => absurd rfl z, fun _ => ?_⟩
        exact mX128 hC (by omega) hR3 (fun M4 x1 => k0 M4 (fun z => q4 z.2) x1)
  | succ N ih =>
    intro i M2 g a1 a2 a3
    have r := tel_rng (i := i) (by omega) (by omega)
    refine s339_58 (d + 2) K _ _ _ ?_
    refine ⟨by omega, fun w => by omega, fun w => ?_⟩
    refine smallOrder_Y (by omega) (by omega) ?_
    refine ⟨by omega, fun w2 => ?_, fun w2 => ?_⟩
    · rw [if_neg (by omega)] at a2
      refine ⟨by omega, ?_⟩
      refine ih (i + 1) _ g (by omega) ?_ (fun t t0 t1 => ?_)
      · rw [if_neg (by omega)]
        exact vR_up a2 (fun c hc => by rw [um_ne (by omega)]) (fun c hc => by rw [um_ne (by omega)])
      · rw [um_at]
        show _ = ur (tlU (M0 sc) p c g i) (tel i) (if (i : Int) < c then bv (M0 sc) (p + 3 * i) 3 else 0) t
        rw [if_neg (by omega)]
        by_cases q : t = tel i
        · rw [q, ur_at, ur_at]
        · rw [ur_ne (by omega), ur_ne q]
          exact a3 t t0 t1
    · rw [if_pos (by omega)] at a2
      refine readNumber_Y (n := 3) hC a2 (by omega) (fun v M3 t1 t2 t3 t4 => ?_)
      refine ⟨by omega, ?_⟩
      by_cases hin : p + 3 * (i : Int) + 3 ≤ vE M0
      · have eb : bS (M0 sc) (vE M0) 3 (some (p + 3 * (i : Int), o)) = (bv (M0 sc) (p + 3 * i) 3, some (p + 3 * (i : Int) + 3, o)) := bS_pos hin
        rw [eb] at t1 t3
        have ev : v = bv (M0 sc) (p + 3 * i) 3 := t3 (fun z => by cases z)
        dsimp only at t1
        have s210 := t2.1 210 (by decide)
        refine ih (i + 1) _ g (by omega) ?_ (fun t t0 t9 => ?_)
        · have es : p + 3 * (if ((i + 1 : Nat) : Int) < c then ((i + 1 : Nat) : Int) else c) = p + 3 * (i : Int) + 3 := by
            split <;> omega
          rw [es]
          exact vR_up t1 (fun c hc => by rw [um_ne (by omega)]) (fun c hc => by rw [um_ne (by omega)])
        · rw [um_at, s210]
          show _ = ur (tlU (M0 sc) p c g i) (tel i) (if (i : Int) < c then bv (M0 sc) (p + 3 * i) 3 else 0) t
          rw [if_pos (by omega), ev]
          by_cases q : t = tel i
          · rw [q, ur_at, ur_at]
          · rw [ur_ne (by omega), ur_ne q]
            exact a3 t t0 t9
      · have eb : bS (M0 sc) (vE M0) 3 (some (p + 3 * (i : Int), o)) = (0, none) := bS_neg hin
        rw [eb] at t1
        refine mX58 hC (by omega) (fun M4 h4 => k0 M4 (by omega) h4) N (i + 1) _ (by omega) ?_
        exact vR_up t1 (fun c hc => by rw [um_ne (by omega)]) (fun c hc => by rw [um_ne (by omega)])
end VMADE
