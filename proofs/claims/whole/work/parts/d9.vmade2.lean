/-! UNPACKING, the reference: readMade, the lengths -/
def laR (r : Int → Int) (h : Int) : Int → Int := fun s => if s < h then r s else 0
def lbR (r : Int → Int) (h e : Int) : Int → Int := fun s => if s < e then r (h + s) else 0
def rlR (r : Int → Int) (h e q : Int) : Int := if q < h then r q else if 288 ≤ q ∧ q - 288 < e then r (h + q - 288) else 0
section VMADE2
variable {d nx zl : Nat} {K : Option TV → FH → Prop} {sh : Nat → Option Shp} {M0 M : FM} {sc tc nS nT : Nat} {h e c : Int}
theorem rm425 {p : Int} {o : List Int} {r : Int → Int} {y3 y4 y5 y6 y7 : Option TV} (hC : vC sh M0 sc tc nS nT) (hh : 257 ≤ h ∧ h ≤ 286) (he : 1 ≤ e ∧ e ≤ 30) (hr : ∀ j : Int, 0 ≤ j → j < h + e → 0 ≤ r j ∧ r j ≤ 15) (hRL : ∀ q : Int, 0 ≤ q → q < 320 → M 210 q = rlR r h e q) (hR : vR M0 M tc (some (p, o)))
    (k0 : ∀ M2 : FM, ¬ (0 < r 256 ∧ okL (laR r h) 288 0 ∧ okL (lbR r h e) 32 1) → vR M0 M2 tc none → K none (sh, M2, nx, zl))
    (k1 : ∀ M2 : FM, 0 < r 256 ∧ okL (laR r h) 288 0 ∧ okL (lbR r h e) 32 1 → vR M0 M2 tc (some (p, o)) → trV (M2 205) (laR r h) 288 15 0 0 0 0 → trV (M2 207) (lbR r h e) 32 15 0 0 0 0 → K none (sh, M2, nx, zl)) : b339_425 (d + 2) (fW (d + 2) kd339 K) K [some (fx 168), some (ti h), some (ti e), y3, y4, y5, y6, y7] [] (sh, M, nx, zl) := by
  have tf := tc_far hC
  have hf := hR.2.1.2.1
  have e256 : M 210 256 = r 256 := by
    rw [hRL 256 (by omega) (by omega)]
    unfold rlR
    rw [if_pos (by omega)]
  have r256 := hr 256 (by omega) (by omega)
  have X : ∀ M2 : FM, ¬ (0 < r 256 ∧ okL (laR r h) 288 0 ∧ okL (lbR r h e) 32 1) → vR M0 M2 tc (some (p, o)) → b339_483 (d + 2) (fW (d + 2) kd339 K) K [some (fx 168), some (ti h), some (ti e), y3, y4, y5, y6, y7] [fx 168] (sh, M2, nx, zl) := by
    intro M2 x1 x2
    refine ⟨Or.inr rfl, ?_⟩
    exact k0 _ x1 (vW1 tf.1 x2).1
  refine ⟨by omega, fun w => by omega, fun w => ?_⟩
  refine ⟨by omega, ?_⟩
  refine ⟨by omega, fun w2 => X M (fun z => by omega) hR, fun w2 => ?_⟩
  refine mmake2_Y (ls := laR r h) (n := 288) (nF := 339) (z := 0) (tr204 sh) rfl (by decide) (by omega) (by omega) (by omega) (fun s hs => ?_) (Or.inl rfl) (fun v M3 q1 q2 => ?_)
  · rw [show (0 : Int) + (s : Int) = s by omega, hRL s (by omega) (by omega)]
    unfold rlR laR
    by_cases c1 : (s : Int) < h
    · rw [if_pos c1, if_pos c1]
      exact ⟨rfl, hr s (by omega) (by omega)⟩
    · rw [if_neg c1, if_neg c1, if_neg (by omega)]
      exact ⟨rfl, by omega, by omega⟩
  · have hR3 : vR M0 M3 tc (some (p, o)) := vR_up hR (fun c hc => q2 c (by omega) (by omega)) (fun c hc => q2 c (by omega) (by omega))
    rcases q1 with ⟨q1, q4, q5⟩ | ⟨q1, q4⟩
    · rw [q1]
      refine ⟨by omega, fun z => by omega, fun _ => ?_⟩
      have e210 : M3 210 = M 210 := q2 210 (by decide) (by decide)
      refine mmake2_Y (ls := lbR r h e) (n := 32) (nF := 339) (z := 1) (tr206 sh) rfl (by decide) (by omega) (by omega) (by omega) (fun s hs => ?_) (Or.inr rfl) (fun v2 M4 t1 t2 => ?_)
      · rw [e210, hRL (288 + s) (by omega) (by omega)]
        unfold rlR lbR
        rw [if_neg (by omega)]
        by_cases c1 : (s : Int) < e
        · rw [if_pos (by omega), if_pos c1, show h + (288 + (s : Int)) - 288 = h + s by omega]
          exact ⟨rfl, hr (h + s) (by omega) (by omega)⟩
        · rw [if_neg (by omega), if_neg c1]
          exact ⟨rfl, by omega, by omega⟩
      · have hR4 : vR M0 M4 tc (some (p, o)) := vR_up hR3 (fun c hc => t2 c (by omega) (by omega)) (fun c hc => t2 c (by omega) (by omega))
        rcases t1 with ⟨t1, t4, t5⟩ | ⟨t1, t4⟩
        · rw [t1]
          refine ⟨by omega, fun _ => ?_, fun z => by omega⟩
          refine ⟨Or.inl rfl, ?_⟩
          obtain ⟨z1, z2⟩ := vW0 tf.1 hR4 hR4.2.1.2.1
          refine k1 _ ⟨by omega, q4, t4⟩ z1 ?_ ?_
          · rw [um_ne (by decide), t2 205 (by decide) (by decide)]
            exact q5
          · rw [um_ne (by decide)]
            exact t5
        · rw [t1]
          refine ⟨by omega, fun z => absurd rfl z, fun _ => ?_⟩
          exact X M4 (fun z => t4 z.2.2) hR4
    · rw [q1]
      refine ⟨by omega, fun _ => ?_, fun z => absurd rfl z⟩
      exact X M3 (fun z => q4 z.2.1) hR3
theorem rm346 {p : Int} {o : List Int} {r : Int → Int} {n4 : Int} {y3 y6 y7 : Option TV} (hC : vC sh M0 sc tc nS nT) (hh : 257 ≤ h ∧ h ≤ 286) (he : 1 ≤ e ∧ e ≤ 30) (hr : ∀ j : Int, 0 ≤ j → j < h + e → 0 ≤ r j ∧ r j ≤ 15)
    (k0 : ∀ M2 : FM, ¬ (0 < r 256 ∧ okL (laR r h) 288 0 ∧ okL (lbR r h e) 32 1) → vR M0 M2 tc none → K none (sh, M2, nx, zl))
    (k1 : ∀ M2 : FM, 0 < r 256 ∧ okL (laR r h) 288 0 ∧ okL (lbR r h e) 32 1 → vR M0 M2 tc (some (p, o)) → trV (M2 205) (laR r h) 288 15 0 0 0 0 → trV (M2 207) (lbR r h e) 32 15 0 0 0 0 → K none (sh, M2, nx, zl)) : ∀ (N i : Nat) (M2 : FM), i + N = 320 → vR M0 M2 tc (some (p, o)) → (∀ j : Int, 0 ≤ j → j < h + e → M2 200 j = r j) → (∀ q : Int, 0 ≤ q → q < i → M2 210 q = rlR r h e q) → fm_X (d + 2) kd339 346 [some (fx 168), some (ti h), some (ti e), y3, some (ti n4), some (ti i), y6, y7] [] (sh, M2, nx, zl) K := by
  have tf := tc_far hC
  intro N
  induction N with
  | zero =>
    intro i M2 a1 a2 a3 a4
    refine s339_346 (d + 2) K _ _ _ ?_
    refine ⟨by omega, fun w => ?_, fun w => by omega⟩
    exact rm425 hC hh he hr (fun q q0 q1 => a4 q q0 (by omega)) a2 k0 k1
  | succ N ih =>
    intro i M2 a1 a2 a3 a4
    have hf := a2.2.1.2.1
    refine s339_346 (d + 2) K _ _ _ ?_
    refine ⟨by omega, fun w => by omega, fun w => ?_⟩
    refine ⟨by omega, fun w => by omega, fun w => ?_⟩
    have ST : ∀ v : Int, v = rlR r h e i → b339_418 (d + 2) (fW (d + 2) kd339 K) K [some (fx 168), some (ti h), some (ti e), y3, some (ti n4), some (ti i), y6, y7] [ti v, ti (i : Int), fx 210] (sh, M2, nx, zl) := by
      intro v hv
      refine ⟨by omega, ?_⟩
      refine ih (i + 1) _ (by omega) (vR_up a2 (fun c hc => by rw [um_ne (by omega)]) (fun c hc => by rw [um_ne (by omega)])) (fun j j0 j1 => by rw [um_ne (by decide)]; exact a3 j j0 j1) (fun q q0 q1 => ?_)
      rw [um_at]
      by_cases eq : q = i
      · rw [eq, ur_at, hv]
      · rw [ur_ne eq]
        exact a4 q q0 (by omega)
    refine ⟨by omega, fun w2 => ?_, fun w2 => ?_⟩
    · refine ⟨by omega, fun w3 => ?_, fun w3 => ?_⟩
      · refine ST 0 ?_
        unfold rlR
        rw [if_neg (by omega), if_neg (by omega)]
      · refine ⟨by omega, fun w4 => ?_, fun w4 => ?_⟩
        · refine ST 0 ?_
          unfold rlR
          rw [if_neg (by omega), if_neg (by omega)]
        · refine ⟨by omega, ?_⟩
          refine ST _ ?_
          unfold rlR
          rw [if_neg (by omega), if_pos (by omega)]
          exact a3 _ (by omega) (by omega)
    · refine ⟨by omega, ?_⟩
      refine ST _ ?_
      unfold rlR
      rw [if_pos (by omega)]
      exact a3 _ (by omega) (by omega)
theorem rm139 {p0 : Int} {o : List Int} {tl : Int → Int} {G : Nat} {y7 : Option TV} (hC : vC sh M0 sc tc nS nT) (hh : 257 ≤ h ∧ h ≤ 286) (he : 1 ≤ e ∧ e ≤ 30)
    (k0 : ∀ M2 : FM, tlG (M0 sc) (vE M0) tl (h + e) G p0 0 (fun _ => 0) = none → vR M0 M2 tc none → K none (sh, M2, nx, zl))
    (k1 : ∀ (M2 : FM) (p2 : Int) (r : Int → Int) (y6 y7 : Option TV), tlG (M0 sc) (vE M0) tl (h + e) G p0 0 (fun _ => 0) = some (p2, r) → vR M0 M2 tc (some (p2, o)) → (∀ j : Int, 0 ≤ j → j < h + e → M2 200 j = r j ∧ 0 ≤ r j ∧ r j ≤ 15) → fm_X (d + 2) kd339 346 [some (fx 168), some (ti h), some (ti e), some (ti c), some (ti (h + e)), some (ti 0), y6, y7] [] (sh, M2, nx, zl) K) : ∀ (g : Nat) (q i : Int) (r : Int → Int) (M1 : FM) (y5 y6 y7 : Option TV), vE M0 - q < g → 0 ≤ i → i ≤ h + e → tlG (M0 sc) (vE M0) tl (h + e) G p0 0 (fun _ => 0) = tlG (M0 sc) (vE M0) tl (h + e) g q i r → vR M0 M1 tc (some (q, o)) → (∀ j : Int, 0 ≤ j → j < i → M1 200 j = r j ∧ 0 ≤ r j ∧ r j ≤ 15) → trV (M1 209) tl 19 15 0 0 0 0 → fm_X (d + 2) kd339 139 [some (fx 168), some (ti h), some (ti e), some (ti c), some (ti i), y5, y6, y7] [] (sh, M1, nx, zl) K := by
  have tf := tc_far hC
  intro g
  induction g with
  | zero =>
    intro q i r M1 y5 y6 y7 a1 a2 a3 a4 a5 a6 a7
    have z1 := a5.2.1.1
    have z2 := a5.2.2.1
    unfold vE at a1
    omega
  | succ g ih =>
    intro q i r M1 y5 y6 y7 a1 a2 a3 a4 a5 a6 a7
    have hf := a5.2.1.2.1
    refine s339_139 (d + 2) K _ _ _ ?_
    refine ⟨by omega, fun w => ?_, fun w => ?_⟩
    · have ei : i = h + e := by omega
      have ec : tlG (M0 sc) (vE M0) tl (h + e) (g + 1) q i r = some (q, r) := if_pos (by omega)
      rw [ei] at a6 ⊢
      rw [ei] at ec a4
      exact k1 M1 q r y6 y7 (a4.trans ec) a5 a6
    · refine ⟨by omega, fun w => by omega, fun w => ?_⟩
      have XK : tlG (M0 sc) (vE M0) tl (h + e) (g + 1) q i r = none → ∀ M2 : FM, vR M0 M2 tc none → K none (sh, M2, nx, zl) := fun hz M2 x => k0 M2 (a4.trans hz) x
      refine readSymbol_Y hC (tr208 sh) (by omega) a7 a5 (fun M2 t1 t2 => ?_)
      cases hs : sy (M0 sc) (vE M0) tl 19 q with
      | none =>
        have ec : tlG (M0 sc) (vE M0) tl (h + e) (g + 1) q i r = none := by
          show (if h + e ≤ i then some (q, r) else match sy (M0 sc) (vE M0) tl 19 q with
            | none => none
            | some (t, p1) => _) = none
          rw [if_neg (by omega), hs]
        rw [sS_none hs] at t1 ⊢
        have t1' : vR M0 M2 tc none := t1
        have hf2 := t1'.2.1
        refine ⟨by omega, fun w3 => ?_, fun w3 => by omega⟩
        exact mX184 hC (by omega) (by show (0 : Int) ≤ 0 ∧ (0 : Int) ≤ 1000; omega) t1' (XK ec)
      | some tq =>
        obtain ⟨t, p1⟩ := tq
        have rs := sy_rng hs
        rw [sS_some hs] at t1 ⊢
        have t1' : vR M0 M2 tc (some (p1, o)) := t1
        have hf2 := t1'.2.1.2.1
        dsimp only
        have ec : tlG (M0 sc) (vE M0) tl (h + e) (g + 1) q i r = match tlP (M0 sc) (vE M0) t p1 i r with
            | none => none
            | some (v, n, p2) => if i + n ≤ h + e then tlG (M0 sc) (vE M0) tl (h + e) g p2 (i + n) (fillU r i n v) else none := by
          show (if h + e ≤ i then some (q, r) else match sy (M0 sc) (vE M0) tl 19 q with
            | none => none
            | some (t, p1) => _) = _
          rw [if_neg (by omega), hs]
          rfl
        refine ⟨by omega, fun w3 => by omega, fun w3 => ?_⟩
        -- behind the times
        have B246 : ∀ (M3 : FM) (v n p2 : Int), tlP (M0 sc) (vE M0) t p1 i r = some (v, n, p2) → (0 ≤ v ∧ v ≤ 15) → (1 ≤ n ∧ n ≤ 200) → (t < 16 ∧ v = t ∨ t = 16 ∧ 0 < i ∧ v = r (i - 1) ∨ 16 < t ∧ v = 0) → vR M0 M3 tc (some (p2, o)) → wk2 M1 M3 → b339_246 (d + 2) (fW (d + 2) kd339 K) K [some (fx 168), some (ti h), some (ti e), some (ti c), some (ti i), some (ti t), y6, y7] [ti n] (sh, M3, nx, zl) := by
          intro M3 v n p2 b1 b2 b3 b4 b5 b6
          have ta := tlP_adv b1
          rw [b1] at ec
          have ec' : tlG (M0 sc) (vE M0) tl (h + e) (g + 1) q i r = if i + n ≤ h + e then tlG (M0 sc) (vE M0) tl (h + e) g p2 (i + n) (fillU r i n v) else none := ec
          have hf3 := b5.2.1.2.1
          refine ⟨by omega, fun w4 => by omega, fun w4 => ?_⟩
          refine ⟨by omega, fun w5 => ?_, fun w5 => ?_⟩
          · rw [if_pos w5] at ec'
            refine ⟨Or.inl rfl, ?_⟩
            obtain ⟨z1, z2⟩ := vW0 tf.1 b5 hf3
            have b7 := wk2_t b6 z2
            have F : ∀ (N : Nat) (x : Int) (M4 : FM), (n - x).toNat < N → 0 ≤ x → x ≤ n → vR M0 M4 tc (some (p2, o)) → (∀ j : Int, 0 ≤ j → j < i → M4 200 j = M1 200 j) → (∀ j : Int, i ≤ j → j < i + x → M4 200 j = v) → (∀ c : Nat, c ≠ 200 → c ≠ 168 → M4 c = M1 c) → fm_X (d + 2) kd339 278 [some (fx 168), some (ti h), some (ti e), some (ti c), some (ti (i + x)), some (ti t), some (ti n), some (ti x)] [] (sh, M4, nx, zl) K := by
              intro N
              induction N with
              | zero => intro x M4 c1; omega
              | succ N ihN =>
                intro x M4 c1 c2 c3 c4 c5 c6 c7
                have hf4 := c4.2.1.2.1
                refine s339_278 (d + 2) K _ _ _ ?_
                refine ⟨by omega, fun w6 => ?_, fun w6 => ?_⟩
                · have ex : x = n := by omega
                  rw [ex]
                  refine ih p2 (i + n) (fillU r i n v) M4 _ _ _ (by omega) (by omega) (by omega) (a4.trans ec') c4 (fun j j0 j1 => ?_) (by rw [c7 209 (by decide) (by decide)]; exact a7)
                  unfold fillU
                  by_cases ej : i ≤ j ∧ j < i + n
                  · rw [if_pos ej]
                    exact ⟨c6 j ej.1 (by omega), by omega, by omega⟩
                  · rw [if_neg ej, c5 j j0 (by omega)]
                    exact a6 j j0 (by omega)
                · refine ⟨by omega, fun w7 => by omega, fun w7 => ?_⟩
                  have ST : ∀ u : Int, u = v → b339_330 (d + 2) (fW (d + 2) kd339 K) K [some (fx 168), some (ti h), some (ti e), some (ti c), some (ti (i + x)), some (ti t), some (ti n), some (ti x)] [ti u, ti (i + x), fx 200] (sh, M4, nx, zl) := by
                    intro u hu
                    refine ⟨by omega, ?_⟩
                    have zz := ihN (x + 1) (um M4 200 (ur (M4 200) (i + x) u)) (by omega) (by omega) (by omega) (vR_up c4 (fun c hc => by rw [um_ne (by omega)]) (fun c hc => by rw [um_ne (by omega)])) (fun j j0 j1 => ?_) (fun j j0 j1 => ?_) (fun c q1 q2 => by rw [um_ne q1]; exact c7 c q1 q2)
                    · rw [show i + (x + 1) = i + x + 1 by omega] at zz
                      exact zz
                    · rw [um_at, ur_ne (by omega)]
                      exact c5 j j0 j1
                    · rw [um_at]
                      by_cases ej : j = i + x
                      · rw [ej, ur_at, hu]
                      · rw [ur_ne ej]
                        exact c6 j j0 (by omega)
                  refine ⟨by omega, fun w8 => ?_, fun w8 => ST t (by omega)⟩
                  refine ⟨by omega, fun w9 => ST 0 (by omega), fun w9 => ?_⟩
                  refine ⟨by omega, ?_⟩
                  refine ST _ ?_
                  by_cases ex : x = 0
                  · rw [ex, show i + 0 - 1 = i - 1 by omega, c5 (i - 1) (by omega) (by omega), (a6 (i - 1) (by omega) (by omega)).1]
                    omega
                  · exact c6 _ (by omega) (by omega)
            have zz := F (n.toNat + 1) 0 _ (by omega) (by omega) (by omega) z1 (fun j _ _ => by rw [b7.1 200 (by decide)]) (fun j j0 j1 => by omega) (fun c q1 q2 => b7.1 c q2)
            rw [show i + 0 = i by omega] at zz
            exact zz
          · rw [if_neg (by omega)] at ec'
            exact mX267 hC (by omega) (by omega) b5 (XK ec')
        have B188 : ¬ (t = 16 ∧ i = 0) → b339_188 (d + 2) (fW (d + 2) kd339 K) K [some (fx 168), some (ti h), some (ti e), some (ti c), some (ti i), some (ti t), y6, y7] [fx 168] (sh, M2, nx, zl) := by
          intro hgood
          refine ⟨Or.inl rfl, ?_⟩
          obtain ⟨z1, z2⟩ := vW0 tf.1 t1' hf2
          have b6 := wk2_t t2 z2
          have e4 : (2 : Int) ^ 2 = 4 := by decide
          have e8 : (2 : Int) ^ 3 = 8 := by decide
          have e128 : (2 : Int) ^ 7 = 128 := by decide
          refine ⟨by omega, fun w4 => ?_, fun w4 => ?_⟩
          · refine ⟨by omega, fun w5 => ?_, fun w5 => ?_⟩
            · refine ⟨by omega, fun w6 => ?_, fun w6 => ?_⟩
              · exact B246 _ t 1 p1 (if_pos (by omega)) (by omega) (by omega) (Or.inl ⟨by omega, rfl⟩) z1 b6
              · have et : t = 18 := by omega
                refine readNumber_Y (n := 7) hC z1 (by omega) (fun v M3 x1 x2 x3 x4 => ?_)
                by_cases hin : p1 + 7 ≤ vE M0
                · have eb : bS (M0 sc) (vE M0) 7 (some (p1, o)) = (bv (M0 sc) p1 7, some (p1 + 7, o)) := bS_pos hin
                  rw [eb] at x1 x3
                  have ev : v = bv (M0 sc) p1 7 := x3 (fun z => by cases z)
                  refine B246 M3 0 (11 + v) (p1 + 7) ?_ (by omega) (by omega) (Or.inr (Or.inr ⟨by omega, rfl⟩)) x1 (wk2_t b6 x2)
                  unfold tlP
                  rw [if_neg (by omega), if_neg (by omega), if_neg (by omega), if_pos hin, ev]
                · have eb : bS (M0 sc) (vE M0) 7 (some (p1, o)) = (0, none) := bS_neg hin
                  rw [eb] at x1
                  have ep : tlP (M0 sc) (vE M0) t p1 i r = none := by
                    unfold tlP
                    rw [if_neg (by omega), if_neg (by omega), if_neg (by omega), if_neg hin]
                  rw [ep] at ec
                  exact mX246 hC (by omega) (by omega) x1 (XK ec)
            · have et : t = 17 := by omega
              refine readNumber_Y (n := 3) hC z1 (by omega) (fun v M3 x1 x2 x3 x4 => ?_)
              by_cases hin : p1 + 3 ≤ vE M0
              · have eb : bS (M0 sc) (vE M0) 3 (some (p1, o)) = (bv (M0 sc) p1 3, some (p1 + 3, o)) := bS_pos hin
                rw [eb] at x1 x3
                have ev : v = bv (M0 sc) p1 3 := x3 (fun z => by cases z)
                refine B246 M3 0 (3 + v) (p1 + 3) ?_ (by omega) (by omega) (Or.inr (Or.inr ⟨by omega, rfl⟩)) x1 (wk2_t b6 x2)
                unfold tlP
                rw [if_neg (by omega), if_neg (by omega), if_pos et, if_pos hin, ev]
              · have eb : bS (M0 sc) (vE M0) 3 (some (p1, o)) = (0, none) := bS_neg hin
                rw [eb] at x1
                have ep : tlP (M0 sc) (vE M0) t p1 i r = none := by
                  unfold tlP
                  rw [if_neg (by omega), if_neg (by omega), if_pos et, if_neg hin]
                rw [ep] at ec
                exact mX246 hC (by omega) (by omega) x1 (XK ec)
          · have et : t = 16 := by omega
            refine readNumber_Y (n := 2) hC z1 (by omega) (fun v M3 x1 x2 x3 x4 => ?_)
            by_cases hin : p1 + 2 ≤ vE M0
            · have eb : bS (M0 sc) (vE M0) 2 (some (p1, o)) = (bv (M0 sc) p1 2, some (p1 + 2, o)) := bS_pos hin
              rw [eb] at x1 x3
              have ev : v = bv (M0 sc) p1 2 := x3 (fun z => by cases z)
              have ri := (a6 (i - 1) (by omega) (by omega)).2
              refine B246 M3 (r (i - 1)) (3 + v) (p1 + 2) ?_ ri (by omega) (Or.inr (Or.inl ⟨et, by omega, rfl⟩)) x1 (wk2_t b6 x2)
              unfold tlP
              rw [if_neg (by omega), if_pos et, if_neg (by omega), if_pos hin, ev]
            · have eb : bS (M0 sc) (vE M0) 2 (some (p1, o)) = (0, none) := bS_neg hin
              rw [eb] at x1
              have ep : tlP (M0 sc) (vE M0) t p1 i r = none := by
                unfold tlP
                rw [if_neg (by omega), if_pos et, if_neg (by omega), if_neg hin]
              rw [ep] at ec
              exact mX246 hC (by omega) (by omega) x1 (XK ec)
        refine ⟨by omega, fun w4 => B188 (by omega), fun w4 => ?_⟩
        refine ⟨by omega, fun w5 => B188 (by omega), fun w5 => ?_⟩
        have ep : tlP (M0 sc) (vE M0) t p1 i r = none := by
          unfold tlP
          rw [if_neg (by omega), if_pos (by omega), if_pos (by omega)]
        rw [ep] at ec
        exact mX184 hC (by omega) (by omega) t1' (XK ec)
end VMADE2
