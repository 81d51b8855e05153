/-! FREEZING: from the rows on, the reference -/
/-- the image that is made: X1 data and inodes, U listings -/
def fIM (z op B lg wh nL ia r0 : Int) (X1 U E ids : List Int) (T : List (Int × Int)) : List Int := hdZ (hdA B lg op wh nL T.length ids.length r0) (tX5 z (tX4 z op (tX3 z (X1 ++ U) T) E) ids).length (ilP z (tX4 z op (tX3 z (X1 ++ U) T) E) ids) ia X1.length (fglP z (X1 ++ U) T) (elP z op (tX3 z (X1 ++ U) T) E) ++ (tX5 z (tX4 z op (tX3 z (X1 ++ U) T) E) ids).drop 96
/-- what the rest leaves -/
def mfF2 (M M2 : FM) : Prop := (∀ c : Nat, c ≠ 168 → (c < 188 ∨ 203 < c) → c ≠ 211 → c ≠ 212 → (c < 226 ∨ 233 < c) → M2 c = M c) ∧ ∀ i : Int, i ≠ 28 → i ≠ 31 → i ≠ 42 → i ≠ 59 → i ≠ 61 → i ≠ 62 → M2 168 i = M 168 i
theorem mfF2_t {M M2 M3 : FM} (h : mfF2 M M2) (g : mfF2 M2 M3) : mfF2 M M3 := ⟨fun c h1 h2 h3 h4 h5 => (g.1 c h1 h2 h3 h4 h5).trans (h.1 c h1 h2 h3 h4 h5), fun i h1 h2 h3 h4 h5 h6 => (g.2 i h1 h2 h3 h4 h5 h6).trans (h.2 i h1 h2 h3 h4 h5 h6)⟩
theorem mfF2_r (M : FM) : mfF2 M M := ⟨fun _ _ _ _ _ _ => rfl, fun _ _ _ _ _ _ _ => rfl⟩
theorem mfF2_ar {M M2 : FM} {q : Nat} (hq : q = 226 ∨ q = 230) (h : arF M M2 q) : mfF2 M M2 := ⟨fun c h1 h2 h3 h4 h5 => h.1 c h1 h2 (by omega) (by omega) (by omega) h4, fun i h1 h2 h3 _ h5 h6 => h.2.1 i h1 h2 h3 h5 h6⟩
theorem mfF2_ma {M M2 : FM} (h : maF M M2 230) : mfF2 M M2 := ⟨fun c h1 h2 h3 h4 h5 => h.1 c h1 h2 (by omega) (by omega) (by omega) (by omega), fun i h1 h2 h3 _ _ _ => h.2 i h1 h2 h3⟩
theorem mfF2_ad {M M2 : FM} (h : adF M M2) : mfF2 M M2 := ⟨fun c h1 h2 h3 h4 h5 => h.1 c h1 h4, fun i h1 h2 h3 _ h5 h6 => h.2 i h5 h6⟩
theorem mr_new {M M2 : FM} {z : Int} (f : ∀ c : Nat, c ≠ 230 → M2 c = M c) (h1 : M2 230 1 = 0) (h3 : M2 230 3 = 0) (h5 : M2 230 5 = 0) (h6 : M2 230 6 = 0) (h0 : M 232 0 = 0) : mrO M2 230 231 232 233 z [] := by
  refine ⟨⟨⟨h1, by show 0 ≤ 65536; omega, rfl⟩, h3, ⟨h5, rfl⟩, fun i hi => ?_⟩, h6⟩
  have ei : i = 0 := by
    have : i ≤ 0 / 8192 := hi
    omega
  rw [ei, f 232 (by omega)]
  exact h0
section MFREEZE
variable {d nx zl : Nat} {K : Option TV → FH → Prop} {sh : Nat → Option Shp} {M : FM} {op : Int}
theorem mtail_Y {lg wh B ia : Int} {L ids I Q : List Int} {T : List (Int × Int)} {P : Int → Int} {D0 : List Int} {r0 : Int} (hop : 0 ≤ op ∧ op ≤ 15) (hlg : 0 ≤ lg ∧ lg ≤ 100) (hwh : -2147483648 ≤ wh ∧ wh ≤ 2147483647) (hB : 0 ≤ B ∧ B ≤ 100000) (h68 : M 168 68 = B) (h69 : M 168 69 = op) (h63 : M 168 63 = L.length) (hL : L.length ≤ 2000) (hord : ∀ (i : Nat) (x : Int), L[i]? = some x → M 213 i = x ∧ 0 ≤ x ∧ x < 2000) (h0 : L[0]? = some 0)
    (hid : rdI M ids) (hir : ∀ v ∈ ids, -2147483648 ≤ v ∧ v ≤ 2147483647) (hil : ids.length ≤ 4000) (h78 : M 168 78 = T.length) (hTl : T.length ≤ 500) (hT : ∀ (i : Nat) (t : Int × Int), T[i]? = some t → (M 223 i = t.1 ∧ M 224 i = t.2) ∧ (0 ≤ t.1 ∧ t.1 ≤ 131072) ∧ 0 ≤ t.2 ∧ t.2 ≤ 16842752)
    (hI : mrO M 226 227 228 229 (1 - op % 2) I) (hQ : mrO M 230 231 232 233 (1 - op % 2) Q) (lI : I.length ≤ 65536) (lQ : Q.length ≤ 65536) (hP : ∀ x ∈ L, M 234 x = P x ∧ 0 ≤ P x ∧ P x ≤ I.length) (hD : rbO M (some D0)) (hia : ia = D0.length) (h96 : 96 ≤ D0.length) (hr0 : r0 = stI (1 - op % 2) I (P 0) * 65536 + P 0 % 8192)
    (kf : ∀ M2 : FM, mfF2 M M2 → M2 211 = M 211 → M2 168 59 = M 168 59 → (M2 228 0 = 0 ∧ M2 232 0 = 0) → (D0.length + (clG (1 - op % 2) I 0 (pcN I.length)).length ≤ 131072 → ¬ (tX5 (1 - op % 2) (tX4 (1 - op % 2) op (tX3 (1 - op % 2) ((D0 ++ clG (1 - op % 2) I 0 (pcN I.length)) ++ clG (1 - op % 2) Q 0 (pcN Q.length)) T) (exL (fun x => stI (1 - op % 2) I (P x) * 65536 + P x % 8192) L)) ids).length ≤ 131072) → K (some (ti (-6))) (sh, M2, nx, zl))
    (kg : ∀ (M2 : FM) (X : List Int), mfF2 M M2 → (M2 228 0 = 0 ∧ M2 232 0 = 0) → D0.length + (clG (1 - op % 2) I 0 (pcN I.length)).length ≤ 131072 → (tX5 (1 - op % 2) (tX4 (1 - op % 2) op (tX3 (1 - op % 2) ((D0 ++ clG (1 - op % 2) I 0 (pcN I.length)) ++ clG (1 - op % 2) Q 0 (pcN Q.length)) T) (exL (fun x => stI (1 - op % 2) I (P x) * 65536 + P x % 8192) L)) ids).length ≤ 131072 → X = fIM (1 - op % 2) op B lg wh L.length ia r0 (D0 ++ clG (1 - op % 2) I 0 (pcN I.length)) (clG (1 - op % 2) Q 0 (pcN Q.length)) (exL (fun x => stI (1 - op % 2) I (P x) * 65536 + P x % 8192) L) ids T → X.length ≤ 131072 → M2 168 59 = X.length → sl (M2 211) 0 X.length = X → ∀ y4 y6 y8 y9 y10 y11 y12 y13 : Option TV, (o_al 0 (o_ic 0 (o_put 12 91 91 (o_al 0 (o_callv (d + 123) 316 0 12 (o_al 0 (o_get 12 59 59 (o_iret K))))))) : FC) [some (fx 168), some (ti lg), some (ti op), some (ti wh), y4, none, y6, none, y8, y9, y10, y11, y12, y13] [] (sh, M2, nx, zl)) :
    (o_al 0 (o_al 0 (o_get 12 83 83 (o_callv (d + 123) 312 1 12 (o_is 8 (o_al 0 (b262_144 (d + 123) (fW (d + 123) kd262 K) K)))))) : FC) [some (fx 168), some (ti lg), some (ti op), some (ti wh), some (tj (-1)), none, some (tj (-1)), none, none, none, none, none, none, none] [] (sh, M, nx, zl) := by
  obtain ⟨z, hzz⟩ : ∃ z : Int, z = 1 - op % 2 := ⟨_, rfl⟩
  rw [← hzz] at hr0 kf kg
  obtain ⟨rf, hrf⟩ : ∃ rf : Int → Int, rf = fun x => stI z I (P x) * 65536 + P x % 8192 := ⟨_, rfl⟩
  rw [← hrf] at kf kg
  obtain ⟨E, hE⟩ : ∃ E : List Int, E = exL rf L := ⟨_, rfl⟩
  rw [← hE] at kf kg
  obtain ⟨cI, hcI⟩ : ∃ cI, cI = clG z I 0 (pcN I.length) := ⟨_, rfl⟩
  obtain ⟨U, hU⟩ : ∃ U, U = clG z Q 0 (pcN Q.length) := ⟨_, rfl⟩
  rw [← hcI, ← hU] at kf kg
  obtain ⟨t, ht⟩ : ∃ t, t = apO 131072 (some D0) cI := ⟨_, rfl⟩
  have tX : D0.length + cI.length ≤ 131072 → t = some (D0 ++ cI) := fun f => by rw [ht, apO_fit f]
  have tN : ¬ D0.length + cI.length ≤ 131072 → t = none := fun f => by rw [ht, apO_not f]
  -- stages
  obtain ⟨F1, hF1⟩ : ∃ F1 : List Int → List Int, F1 = fun X => X ++ U := ⟨_, rfl⟩
  obtain ⟨F3, hF3⟩ : ∃ F3 : List Int → List Int, F3 = fun X => tX3 z (F1 X) T := ⟨_, rfl⟩
  obtain ⟨F4, hF4⟩ : ∃ F4 : List Int → List Int, F4 = fun X => tX4 z op (F3 X) E := ⟨_, rfl⟩
  obtain ⟨F5, hF5⟩ : ∃ F5 : List Int → List Int, F5 = fun X => tX5 z (F4 X) ids := ⟨_, rfl⟩
  have f5e : F5 (D0 ++ cI) = tX5 z (tX4 z op (tX3 z ((D0 ++ cI) ++ U) T) E) ids := by rw [hF5, hF4, hF3, hF1]
  rw [← f5e] at kf kg
  have le01 : ∀ X : List Int, X.length ≤ (F1 X).length := fun X => by rw [hF1]; show X.length ≤ (X ++ U).length; rw [List.length_append]; omega
  have le13 : ∀ X : List Int, (F1 X).length ≤ (F3 X).length := fun X => by rw [hF3]; exact tX3_le _ _ _
  have le34 : ∀ X : List Int, (F3 X).length ≤ (F4 X).length := fun X => by rw [hF4]; exact tX4_le _ _ _ _
  have le45 : ∀ X : List Int, (F4 X).length ≤ (F5 X).length := fun X => by rw [hF5]; exact tX5_le _ _ _
  have g61 : M 168 61 = ia := by rw [hia]; exact hD.2.1
  refine addRow_Y (d := d + 103) (s := some D0) (mr226 sh) hop h69 hI lI hD (fun Ma fa Ea wa => ?_)
  rw [g61]
  rw [← hzz] at Ea wa
  rw [← hcI, ← ht] at wa
  have Fa := mfF2_ar (Or.inl rfl) fa
  have Qa : mrO Ma 230 231 232 233 (1 - op % 2) Q := mrO_F hQ (fa.1 230 (by omega) (by omega) (by omega) (by omega) (by omega) (by omega)) (fa.1 231 (by omega) (by omega) (by omega) (by omega) (by omega) (by omega)) (fa.1 232 (by omega) (by omega) (by omega) (by omega) (by omega) (by omega)) (fa.1 233 (by omega) (by omega) (by omega) (by omega) (by omega) (by omega))
  obtain ⟨la, hla⟩ : ∃ la : Int, la = Ma 168 61 := ⟨_, rfl⟩
  have laX : ∀ X : List Int, t = some X → la = X.length := fun X hX => by
    rw [hX] at wa
    rw [hla]
    exact wa.2.1
  have lab := wa.1
  refine addRow_Y (d := d + 103) (s := t) (mr230 sh) hop (by rw [fa.2.1 69 (by decide) (by decide) (by decide) (by decide) (by decide)]; exact h69) Qa lQ wa (fun M1 f1 E1 w1 => ?_)
  rw [← hla]
  rw [← hzz] at E1 w1
  rw [← hU] at w1
  have Fm1 := mfF2_t Fa (mfF2_ar (Or.inr rfl) f1)
  have EI1 : mrE M1 226 228 z I := by
    unfold mrE at *
    rw [f1.1 226 (by omega) (by omega) (by omega) (by omega) (by omega) (by omega), f1.1 228 (by omega) (by omega) (by omega) (by omega) (by omega) (by omega)]
    exact Ea
  have z1 : M1 232 0 = 0 := E1.2 0 (Nat.zero_le _)
  have e211 : M1 211 = M 211 := by rw [f1.1 211 (by omega) (by omega) (by omega) (by omega) (by omega) (by omega), fa.1 211 (by omega) (by omega) (by omega) (by omega) (by omega) (by omega)]
  have e59 : M1 168 59 = M 168 59 := by rw [f1.2.1 59 (by decide) (by decide) (by decide) (by decide) (by decide), fa.2.1 59 (by decide) (by decide) (by decide) (by decide) (by decide)]
  have S1 : stG t F1 (apO 131072 t U) := by
    rw [hF1]
    refine ⟨fun e => by rw [e]; rfl, fun X hX => ?_⟩
    rw [hX]
    show ((X ++ U).length ≤ 131072 → _) ∧ (¬ (X ++ U).length ≤ 131072 → _)
    rw [List.length_append]
    exact ⟨fun f => apO_fit f, fun f => apO_not f⟩
  -- what goes on: nothing of the image yet
  obtain ⟨nI, hnI⟩ : ∃ nI : FM → Prop, nI = fun M2 => mfF2 M M2 ∧ M2 211 = M 211 ∧ M2 168 59 = M 168 59 ∧ mrE M2 226 228 z I ∧ M2 232 0 = 0 := ⟨_, rfl⟩
  have nI1 : nI M1 := by rw [hnI]; exact ⟨Fm1, e211, e59, EI1, z1⟩
  have nIma : ∀ M2 M3 : FM, nI M2 → maF M2 M3 230 → M3 232 0 = 0 → nI M3 := fun M2 M3 h g h0 => by
    rw [hnI] at h ⊢
    obtain ⟨a1, a2, a3, a4, a5⟩ := h
    refine ⟨mfF2_t a1 (mfF2_ma g), by rw [g.1 211 (by omega) (by omega) (by omega) (by omega) (by omega) (by omega)]; exact a2, by rw [g.2 59 (by decide) (by decide) (by decide)]; exact a3, ?_, h0⟩
    unfold mrE at *
    rw [g.1 226 (by omega) (by omega) (by omega) (by omega) (by omega) (by omega), g.1 228 (by omega) (by omega) (by omega) (by omega) (by omega) (by omega)]
    exact a4
  have nIar : ∀ M2 M3 : FM, nI M2 → arF M2 M3 230 → M3 232 0 = 0 → nI M3 := fun M2 M3 h g h0 => by
    rw [hnI] at h ⊢
    obtain ⟨a1, a2, a3, a4, a5⟩ := h
    refine ⟨mfF2_t a1 (mfF2_ar (Or.inr rfl) g), by rw [g.1 211 (by omega) (by omega) (by omega) (by omega) (by omega) (by omega)]; exact a2, by rw [g.2.1 59 (by decide) (by decide) (by decide) (by decide) (by decide)]; exact a3, ?_, h0⟩
    unfold mrE at *
    rw [g.1 226 (by omega) (by omega) (by omega) (by omega) (by omega) (by omega), g.1 228 (by omega) (by omega) (by omega) (by omega) (by omega) (by omega)]
    exact a4
  have nInew : ∀ M2 M3 : FM, nI M2 → (∀ c : Nat, c ≠ 230 → M3 c = M2 c) → nI M3 := fun M2 M3 h g => by
    rw [hnI] at h ⊢
    obtain ⟨a1, a2, a3, a4, a5⟩ := h
    refine ⟨mfF2_t a1 ⟨fun c h1 h2 h3 h4 h5 => g c (by omega), fun i _ _ _ _ _ _ => by rw [g 168 (by omega)]⟩, by rw [g 211 (by omega)]; exact a2, by rw [g 168 (by omega)]; exact a3, ?_, by rw [g 232 (by omega)]; exact a5⟩
    unfold mrE at *
    rw [g 226 (by omega), g 228 (by omega)]
    exact a4
  have nIf : ∀ M2 : FM, nI M2 → mfF2 M M2 := fun M2 h => by rw [hnI] at h; exact h.1
  have nI0 : ∀ M2 : FM, nI M2 → M2 232 0 = 0 := fun M2 h => by rw [hnI] at h; exact h.2.2.2.2
  have mr0 : ∀ {M2 : FM} {R : List Int}, mrO M2 230 231 232 233 z R → M2 232 0 = 0 := fun h => h.1.2.2.2 0 (Nat.zero_le _)
  -- ids and the head
  have B308 : ∀ (M2 : FM) (T3 : Option (List Int)) (v4 v6 : Int) (y10 : Option TV), nI M2 → rbO M2 T3 → stG t F4 T3 → (-1 ≤ v4 ∧ v4 ≤ 131072) → (-1 ≤ v6 ∧ v6 ≤ 131072) → (∀ X1 : List Int, t = some X1 → (F4 X1).length ≤ 131072 → v4 = fglP z (F1 X1) T ∧ v6 = elP z op (F3 X1) E) → b262_308 (d + 123) (fW (d + 123) kd262 K) K [some (fx 168), some (ti lg), some (ti op), some (ti wh), some (tj v4), none, some (tj v6), none, some (ti ia), some (ti la), y10, none, none, none] [] (sh, M2, nx, zl) := by
    intro M2 T3 v4 v6 y10 n2 w2 S4 b4 b6 hv
    refine mrbegin_Y (d := d + 122) (mr230 sh) (fun M3 f3 g1 g3 g5 g6 => ?_)
    have n3 := nInew M2 M3 n2 f3
    have w3 : rbO M3 T3 := rbO_F w2 (by rw [f3 168 (by omega)]) (by rw [f3 168 (by omega)]) (f3 212 (by omega))
    have LP : ∀ (N i : Nat) (M4 : FM), ids.length - i < N → i ≤ ids.length → nI M4 → rbO M4 T3 → mrO M4 230 231 232 233 z (idB (ids.take i)) → fm_X (d + 123) kd262 318 [some (fx 168), some (ti lg), some (ti op), some (ti wh), some (tj v4), none, some (tj v6), none, some (ti ia), some (ti la), some (ti i), none, none, none] [] (sh, M4, nx, zl) K := by
      intro N
      induction N with
      | zero =>
        intro i M4 hN
        omega
      | succ N ih =>
        intro i M4 hN hi n4 w4 r4
        have f4 := nIf M4 n4
        have u66 : M4 168 66 = ids.length := by rw [f4.2 66 (by decide) (by decide) (by decide) (by decide) (by decide) (by decide)]; exact hid.1
        have u69 : M4 168 69 = op := by rw [f4.2 69 (by decide) (by decide) (by decide) (by decide) (by decide) (by decide)]; exact h69
        rw [hzz] at r4
        refine s262_318 (d + 123) K _ _ _ ?_
        refine ⟨by omega, fun w => ?_, fun w => ?_⟩
        · have ei : i = ids.length := by omega
          rw [ei, List.take_length] at r4
          refine addTable_Y (d := d + 102) (s := T3) hop u69 r4 (by rw [idB_len]; omega) w4 (fun M5 v f5 g0 bv w5 hv5 => ?_)
          rw [← hzz] at w5 hv5
          have S5 : stG t F5 (tbO z T3 (idB ids)) := by
            rw [hF5]
            exact stG_tb S4
          obtain ⟨T5, hT5⟩ : ∃ T5, T5 = tbO z T3 (idB ids) := ⟨_, rfl⟩
          rw [← hT5] at w5 hv5 S5
          have n5 := nIar M4 M5 n4 f5 g0
          rw [hnI] at n5
          obtain ⟨a1, a2, a3, a4, a5⟩ := n5
          have s228 : M5 228 0 = 0 := a4.2 0 (Nat.zero_le _)
          cases hc5 : T5 with
          | none =>
            rw [hc5] at w5 S5
            have u62 : M5 168 62 = 1 := w5.2
            refine ⟨by omega, fun w2 => by omega, fun w2 => ?_⟩
            refine kf M5 a1 a2 a3 ⟨s228, a5⟩ (fun fit f => ?_)
            have := (S5.2 _ (tX fit)).1 f
            cases this
          | some X5 =>
            rw [hc5] at w5 S5 hv5
            obtain ⟨q0, q1, q2, q3⟩ := w5
            have fit : D0.length + cI.length ≤ 131072 := by
              by_cases c : D0.length + cI.length ≤ 131072
              · exact c
              · have := S5.1 (tN c)
                cases this
            have tx := tX fit
            have l5 : (F5 (D0 ++ cI)).length ≤ 131072 := by
              by_cases c : (F5 (D0 ++ cI)).length ≤ 131072
              · exact c
              · have := (S5.2 _ tx).2 c
                cases this
            have eX5 : X5 = F5 (D0 ++ cI) := Option.some.inj ((S5.2 _ tx).1 l5)
            have l4 := le45 (D0 ++ cI)
            have l3 := le34 (D0 ++ cI)
            have l2 := le13 (D0 ++ cI)
            have l1 := le01 (D0 ++ cI)
            have l0 : (D0 ++ cI).length = D0.length + cI.length := List.length_append
            have x96 : 96 ≤ X5.length := by rw [eX5]; omega
            obtain ⟨ev4, ev6⟩ := hv _ tx (by omega)
            have ev : v = ilP z (F4 (D0 ++ cI)) ids := by
              have e3 := (S4.2 _ tx).1 (by omega)
              rw [hv5 _ e3 (by simp)]
              rfl
            have ela := laX _ tx
            refine ⟨by omega, fun w2 => ?_, fun w2 => by omega⟩
            obtain ⟨us, hus⟩ : ∃ us : Int, us = M5 168 61 := ⟨_, rfl⟩
            have eus : us = X5.length := by rw [hus]; exact q1
            have v69 : M5 168 69 = op := by rw [a1.2 69 (by decide) (by decide) (by decide) (by decide) (by decide) (by decide)]; exact h69
            have A := iand_op (op := M5 168 69) (by rw [v69]; exact hop)
            have flr : 0 ≤ flN op ∧ flN op ≤ 10000 := by
              unfold flN
              split <;> split <;> split <;> split <;> omega
            -- the head, with the flags told
            have B441 : ∀ u1 u2 : Int, u1 + u2 = flN op → b262_441 (d + 123) (fW (d + 123) kd262 K) K [some (fx 168), some (ti lg), some (ti op), some (ti wh), some (tj v4), none, some (tj v6), none, some (ti ia), some (ti la), some (ti v), some (ti us), none, none] [ti u2, ti u1] (sh, M5, nx, zl) := by
              intro u1 u2 hu12
              obtain ⟨R0, gR0⟩ : ∃ R0 : FM, R0 = pq M5 168 61 0 := ⟨_, rfl⟩
              have ro : ∀ c : Nat, c ≠ 168 → R0 c = M5 c := fun c hc => by rw [gR0, pq_o _ _ _ hc]
              have rn : ∀ i : Int, i ≠ 61 → R0 168 i = M5 168 i := fun i hi => by rw [gR0, pq_ne _ _ _ _ hi]
              have r61 : R0 168 61 = 0 := by rw [gR0, pq_at]
              have W0 : rbW R0 (ovL X5 0 []) ([] : List Int).length := by
                refine ⟨⟨r61, Nat.zero_le _, by show X5.length ≤ 131072; omega, by rw [rn 62 (by decide)]; exact q3⟩, fun i y hi hy => ?_⟩
                rw [ro 212 (by omega)]
                rcases hi with hi | hi
                · have : i < 0 := hi
                  omega
                · exact q2 i y hi hy
              have G : ∀ i : Int, i ≠ 28 → i ≠ 31 → i ≠ 42 → i ≠ 59 → i ≠ 61 → i ≠ 62 → R0 168 i = M 168 i := fun i h1 h2 h3 h4 h5 h6 => by rw [rn i h5, a1.2 i h1 h2 h3 h4 h5 h6]
              have T9 : (o_al 0 (o_lc 1936814952 (o_ic 4 (o_callv (d + 123) 314 2 12 (o_al 0 (o_al 0 (o_get 12 63 63 (o_i2l (o_ic 4 (o_callv (d + 123) 314 2 12 (o_al 0 (o_il 3 (o_i2l (o_ic 4 (o_callv (d + 123) 314 2 12 (o_al 0 (o_al 0 (o_get 12 68 68 (o_i2l (o_ic 4 (b262_481 (d + 123) (fW (d + 123) kd262 K) K)))))))))))))))))))) : FC) [some (fx 168), some (ti lg), some (ti op), some (ti wh), some (tj v4), none, some (tj v6), none, some (ti ia), some (ti la), some (ti v), some (ti us), some (ti (flN op)), none] [] (sh, R0, nx, zl) := by
                refine addN_H (d := d + 121) (n := 4) (by omega) (by omega) W0 (by simp only [List.length_nil]; omega) (fun N1 k1 x1 => ?_)
                have p63 : N1 168 63 = L.length := by rw [k1.2 63 (by decide) (by decide), G 63 (by decide) (by decide) (by decide) (by decide) (by decide) (by decide)]; exact h63
                refine ⟨by omega, ?_⟩
                refine addN_H (d := d + 121) (n := 4) (by omega) (by omega) x1 (by simp only [List.length_append, List.length_nil, leL_len]; omega) (fun N2 k2 x2 => ?_)
                have j2 := adF_t k1 k2
                refine ⟨by omega, ?_⟩
                refine addN_H (d := d + 121) (n := 4) (by omega) (by omega) x2 (by simp only [List.length_append, List.length_nil, leL_len]; omega) (fun N3 k3 x3 => ?_)
                have j3 := adF_t j2 k3
                have p68 : N3 168 68 = B := by rw [j3.2 68 (by decide) (by decide), G 68 (by decide) (by decide) (by decide) (by decide) (by decide) (by decide)]; exact h68
                refine ⟨by omega, ?_⟩
                refine addN_H (d := d + 121) (n := 4) (by omega) (by omega) x3 (by simp only [List.length_append, List.length_nil, leL_len]; omega) (fun N4 k4 x4 => ?_)
                have j4 := adF_t j3 k4
                have p78 : N4 168 78 = T.length := by rw [j4.2 78 (by decide) (by decide), G 78 (by decide) (by decide) (by decide) (by decide) (by decide) (by decide)]; exact h78
                refine ⟨by omega, ?_⟩
                refine addN_H (d := d + 121) (n := 4) (by omega) (by omega) x4 (by simp only [List.length_append, List.length_nil, leL_len]; omega) (fun N5 k5 x5 => ?_)
                have j5 := adF_t j4 k5
                refine addN_H (d := d + 121) (n := 2) (by omega) (by omega) x5 (by simp only [List.length_append, List.length_nil, leL_len]; omega) (fun N6 k6 x6 => ?_)
                have j6 := adF_t j5 k6
                refine ⟨by omega, ?_⟩
                refine addN_H (d := d + 121) (n := 2) (by omega) (by omega) x6 (by simp only [List.length_append, List.length_nil, leL_len]; omega) (fun N7 k7 x7 => ?_)
                have j7 := adF_t j6 k7
                refine ⟨by omega, ?_⟩
                refine addN_H (d := d + 121) (n := 2) (by omega) (by omega) x7 (by simp only [List.length_append, List.length_nil, leL_len]; omega) (fun N8 k8 x8 => ?_)
                have j8 := adF_t j7 k8
                have p66 : N8 168 66 = ids.length := by rw [j8.2 66 (by decide) (by decide), G 66 (by decide) (by decide) (by decide) (by decide) (by decide) (by decide)]; exact hid.1
                refine ⟨by omega, ?_⟩
                refine addN_H (d := d + 121) (n := 2) (by omega) (by omega) x8 (by simp only [List.length_append, List.length_nil, leL_len]; omega) (fun N9 k9 x9 => ?_)
                have j9 := adF_t j8 k9
                refine addN_H (d := d + 121) (n := 2) (by omega) (by omega) x9 (by simp only [List.length_append, List.length_nil, leL_len]; omega) (fun Na ka xa => ?_)
                have ja := adF_t j9 ka
                refine addN_H (d := d + 121) (n := 2) (by omega) (by omega) xa (by simp only [List.length_append, List.length_nil, leL_len]; omega) (fun Nb kb xb => ?_)
                have jb := adF_t ja kb
                obtain ⟨m1, m2, m3⟩ := hP 0 (List.mem_of_getElem? h0)
                have p234 : Nb 234 0 = P 0 := by rw [jb.1 234 (by omega) (by omega), ro 234 (by omega), a1.1 234 (by omega) (by omega) (by omega) (by omega) (by omega)]; exact m1
                have p228 : Nb 228 (P 0 / 8192) = stI z I (P 0) := by
                  rw [jb.1 228 (by omega) (by omega), ro 228 (by omega)]
                  have := a4.2 (P 0 / 8192).toNat (by unfold pcN; omega)
                  rw [show (((P 0 / 8192).toNat : Nat) : Int) = P 0 / 8192 by omega] at this
                  exact this
                have sr := stI_r (z := z) I m2 (by omega)
                refine ⟨by omega, ?_⟩
                rw [p234]
                refine mreference_Y (d := d + 121) (mr226 sh) (by omega) (by omega) ?_
                rw [p228, ← hr0]
                have rr : 0 ≤ r0 ∧ r0 ≤ 8589942784 := by omega
                refine addN_H (d := d + 121) (n := 8) (by omega) (by omega) xb (by simp only [List.length_append, List.length_nil, leL_len]; omega) (fun Nc kc xc => ?_)
                have jc := adF_t jb kc
                rw [p63, p68, p78, p66] at xc
                obtain ⟨HA, hHA⟩ : ∃ HA, HA = hdA B lg op wh L.length T.length ids.length r0 := ⟨_, rfl⟩
                have xc2 : rbW Nc (ovL X5 0 HA) HA.length := by
                  rw [hHA]
                  exact xc
                have lHA : HA.length = 40 := by rw [hHA, hdA_len]
                refine ⟨by omega, ?_⟩
                refine addN_H (d := d + 121) (n := 8) (by omega) (by omega) xc2 (by omega) (fun Nd kd xd => ?_)
                refine ⟨by omega, ?_⟩
                refine addN_H (d := d + 121) (n := 8) (by omega) (by omega) xd (by simp only [List.length_append, leL_len]; omega) (fun Ne ke xe => ?_)
                refine addN_H (d := d + 121) (n := 8) (by omega) (by omega) xe (by simp only [List.length_append, leL_len]; omega) (fun Nf kf' xf => ?_)
                refine ⟨by omega, ?_⟩
                refine addN_H (d := d + 121) (n := 8) (by omega) (by omega) xf (by simp only [List.length_append, leL_len]; omega) (fun Ng kg' xg => ?_)
                refine ⟨by omega, ?_⟩
                refine addN_H (d := d + 121) (n := 8) (by omega) (by omega) xg (by simp only [List.length_append, leL_len]; omega) (fun Nh kh xh => ?_)
                refine addN_H (d := d + 121) (n := 8) (by omega) (by omega) xh (by simp only [List.length_append, leL_len]; omega) (fun Ni ki xi => ?_)
                refine addN_H (d := d + 121) (n := 8) (by omega) (by omega) xi (by simp only [List.length_append, leL_len]; omega) (fun Nj kj xj => ?_)
                have jj := adF_t jc (adF_t kd (adF_t ke (adF_t kf' (adF_t kg' (adF_t kh (adF_t ki kj))))))
                obtain ⟨HD, hHD⟩ : ∃ HD, HD = hdZ HA us v ia la v4 v6 := ⟨_, rfl⟩
                have xj2 : rbW Nj (ovL X5 0 HD) HD.length := by
                  rw [hHD]
                  exact xj
                have lHD : HD.length = 96 := by rw [hHD, hdZ_len, lHA]
                have oe : ovL X5 0 HD = HD ++ X5.drop 96 := by
                  have := ovL_eq HD X5 [] (by omega)
                  rw [lHD] at this
                  exact this
                rw [oe, lHD] at xj2
                obtain ⟨Z, hZ⟩ : ∃ Z, Z = HD ++ X5.drop 96 := ⟨_, rfl⟩
                rw [← hZ] at xj2
                have lZ : Z.length = X5.length := by
                  rw [hZ, List.length_append, List.length_drop, lHD]
                  omega
                have eZ : Z = fIM z op B lg wh L.length ia r0 (D0 ++ cI) U E ids T := by
                  unfold fIM
                  rw [← f5e, hZ, hHD, hHA, eus, ev, ela, ev4, ev6, eX5, hF4, hF3, hF1]
                obtain ⟨R1, gR1⟩ : ∃ R1 : FM, R1 = pq Nj 168 59 us := ⟨_, rfl⟩
                have r1o : ∀ c : Nat, c ≠ 168 → R1 c = Nj c := fun c hc => by rw [gR1, pq_o _ _ _ hc]
                -- copied
                have CP : ∀ (N i : Nat) (Nk : FM), Z.length - i < N → i ≤ Z.length → (∀ c : Nat, c ≠ 211 → Nk c = R1 c) → (∀ j : Nat, j < i → Nk 211 j % 256 = R1 212 j % 256) → fm_X (d + 123) kd262 628 [some (fx 168), some (ti lg), some (ti op), some (ti wh), some (tj v4), none, some (tj v6), none, some (ti ia), some (ti la), some (ti v), some (ti us), some (ti (flN op)), some (ti i)] [] (sh, Nk, nx, zl) K := by
                  intro N
                  induction N with
                  | zero =>
                    intro i Nk hN
                    omega
                  | succ N ih =>
                    intro i Nk hN hi o9 c9
                    refine s262_628 (d + 123) K _ _ _ ?_
                    refine ⟨by omega, fun w9 => ?_, fun w9 => ?_⟩
                    · have ei : i = Z.length := by omega
                      refine kg Nk Z ⟨fun c h1 h2 h3 h4 h5 => by rw [o9 c h3, r1o c h1, jj.1 c h1 h4, ro c h1, a1.1 c h1 h2 h3 h4 h5], fun i h1 h2 h3 h4 h5 h6 => by rw [o9 168 (by omega), gR1, pq_ne _ _ _ _ h4, jj.2 i h5 h6, G i h1 h2 h3 h4 h5 h6]⟩ ⟨by rw [o9 228 (by omega), r1o 228 (by omega), jj.1 228 (by omega) (by omega), ro 228 (by omega)]; exact s228, by rw [o9 232 (by omega), r1o 232 (by omega), jj.1 232 (by omega) (by omega), ro 232 (by omega)]; exact a5⟩ fit l5 eZ (by omega) (by rw [o9 168 (by omega), gR1, pq_at, eus, lZ]) ?_ _ _ _ _ _ _ _ _
                      refine sl_of (fun j y hy => ?_)
                      have lj : j < Z.length := (List.getElem?_eq_some_iff.1 hy).1
                      rw [c9 j (by omega), r1o 212 (by omega)]
                      exact xj2.2 j y (by omega) hy
                    · refine ⟨by omega, ?_⟩
                      refine ⟨by omega, ?_⟩
                      obtain ⟨Nl, gl⟩ : ∃ Nl : FM, Nl = um Nk 211 (ur (Nk 211) i ((Nk 212 i + 128) % 256 - 128)) := ⟨_, rfl⟩
                      have F := ih (i + 1) Nl (by omega) (by omega) (fun c hc => by rw [gl, um_ne hc, o9 c hc]) (fun j hj => ?_)
                      · rw [gl] at F
                        exact F
                      · rw [gl, um_at]
                        by_cases e : j = i
                        · rw [e, ur_at, o9 212 (by omega)]
                          omega
                        · rw [ur_ne (by omega)]
                          exact c9 j (by omega)
                have F := CP (Z.length + 1) 0 R1 (by omega) (by omega) (fun _ _ => rfl) (fun j hj => by omega)
                rw [gR1] at F
                exact F
              rw [gR0, ← hu12] at T9
              exact T9
            have B425 : ∀ u1 u2 : Int, u1 + u2 + (if op / 4 % 2 = 0 then 0 else 16) = flN op → b262_425 (d + 123) (fW (d + 123) kd262 K) K [some (fx 168), some (ti lg), some (ti op), some (ti wh), some (tj v4), none, some (tj v6), none, some (ti ia), some (ti la), some (ti v), some (ti us), none, none] [ti u2, ti u1] (sh, M5, nx, zl) := by
              intro u1 u2 h
              refine ⟨_, A.2.1, ?_⟩
              rw [v69]
              refine ⟨by omega, fun w => ?_, fun w => ?_⟩
              · rw [if_pos (by omega)] at h
                exact B441 _ _ h
              · rw [if_neg (by omega)] at h
                exact B441 _ _ h
            have B409 : ∀ u1 u2 : Int, u1 + u2 + (if op / 2 % 2 = 0 then 0 else 10) + (if op / 4 % 2 = 0 then 0 else 16) = flN op → b262_409 (d + 123) (fW (d + 123) kd262 K) K [some (fx 168), some (ti lg), some (ti op), some (ti wh), some (tj v4), none, some (tj v6), none, some (ti ia), some (ti la), some (ti v), some (ti us), none, none] [ti u2, ti u1] (sh, M5, nx, zl) := by
              intro u1 u2 h
              refine ⟨_, A.1, ?_⟩
              rw [v69]
              refine ⟨by omega, fun w => ?_, fun w => ?_⟩
              · rw [if_pos (by omega : op / 2 % 2 = 0)] at h
                exact B425 _ _ h
              · rw [if_neg (by omega : ¬ op / 2 % 2 = 0)] at h
                exact B425 _ _ h
            have B392 : ∀ u1 u2 : Int, u1 + u2 + (if op % 2 = 0 then 0 else 2049) + (if op / 2 % 2 = 0 then 0 else 10) + (if op / 4 % 2 = 0 then 0 else 16) = flN op → b262_392 (d + 123) (fW (d + 123) kd262 K) K [some (fx 168), some (ti lg), some (ti op), some (ti wh), some (tj v4), none, some (tj v6), none, some (ti ia), some (ti la), some (ti v), some (ti us), none, none] [ti u2, ti u1] (sh, M5, nx, zl) := by
              intro u1 u2 h
              refine ⟨by omega, fun w => ?_, fun w => ?_⟩
              · rw [if_pos (by omega : op % 2 = 0)] at h
                exact B409 _ _ h
              · rw [if_neg (by omega : ¬ op % 2 = 0)] at h
                exact B409 _ _ h
            have FIN : (o_ic 576 (o_al 0 (o_get 12 69 69 (o_ic 8 (o_iand (o_if .eq (o_ic 0 (b262_392 (d + 123) (fW (d + 123) kd262 K) K)) (o_ic 128 (b262_392 (d + 123) (fW (d + 123) kd262 K) K))))))) : FC) [some (fx 168), some (ti lg), some (ti op), some (ti wh), some (tj v4), none, some (tj v6), none, some (ti ia), some (ti la), some (ti v), some (ti us), none, none] [] (sh, M5, nx, zl) := by
              refine ⟨_, A.2.2, ?_⟩
              rw [v69]
              refine ⟨by omega, fun w => ?_, fun w => ?_⟩
              · refine B392 576 0 ?_
                unfold flN
                rw [if_pos (by omega : op / 8 % 2 = 0)]
              · refine B392 576 128 ?_
                unfold flN
                rw [if_neg (by omega : ¬ op / 8 % 2 = 0)]
            rw [hus] at FIN
            exact FIN
        · obtain ⟨x, hx⟩ : ∃ x, ids[i]? = some x := ⟨_, List.getElem?_eq_getElem (by omega)⟩
          have u215 : M4 215 i = x := by rw [f4.1 215 (by omega) (by omega) (by omega) (by omega) (by omega)]; exact hid.2 i x hx
          have xr := hir x (List.mem_of_getElem? hx)
          refine ⟨by omega, ?_⟩
          refine ⟨by omega, ?_⟩
          refine addTo_Y (d := d + 103) (n := 4) (mr230 sh) hop u69 (by omega) (by omega) r4 (fun M5 f5 w5 => ?_)
          rw [← hzz] at w5
          have et : ids.take (i + 1) = ids.take i ++ [x] := by
            rw [List.take_add_one, hx]
            rfl
          rw [u215, ← idB_app, ← et] at w5
          exact ih (i + 1) M5 (by omega) (by omega) (nIma M4 M5 n4 f5 (mr0 w5)) (rbO_F w4 (f5.2 61 (by decide) (by decide) (by decide)) (f5.2 62 (by decide) (by decide) (by decide)) (f5.1 212 (by omega) (by omega) (by omega) (by omega) (by omega) (by omega))) w5
    have F := LP (ids.length + 1) 0 M3 (by omega) (by omega) n3 w3 (mr_new f3 g1 g3 g5 g6 (nI0 M2 n2))
    exact F
  -- exports
  have B237 : ∀ (M2 : FM) (T2 : Option (List Int)) (v4 : Int) (y10 : Option TV), nI M2 → rbO M2 T2 → stG t F3 T2 → (-1 ≤ v4 ∧ v4 ≤ 131072) → (∀ X1 : List Int, t = some X1 → (F3 X1).length ≤ 131072 → v4 = fglP z (F1 X1) T) → b262_237 (d + 123) (fW (d + 123) kd262 K) K [some (fx 168), some (ti lg), some (ti op), some (ti wh), some (tj v4), none, some (tj (-1)), none, some (ti ia), some (ti la), y10, none, none, none] [] (sh, M2, nx, zl) := by
    intro M2 T2 v4 y10 n2 w2 S3 b4 hv
    have f2 := nIf M2 n2
    have v69 : M2 168 69 = op := by rw [f2.2 69 (by decide) (by decide) (by decide) (by decide) (by decide) (by decide)]; exact h69
    refine ⟨_, (iand_op (op := M2 168 69) (by rw [v69]; exact hop)).2.2, ?_⟩
    rw [v69]
    refine ⟨by omega, fun w => ?_, fun w => ?_⟩
    · have c8 : op / 8 % 2 = 0 := by omega
      refine B308 M2 T2 v4 (-1) _ n2 w2 (stG_cg S3 (fun X => ?_)) b4 (by omega) (fun X1 hX1 f => ⟨hv X1 hX1 (by have := le34 X1; omega), ?_⟩)
      · rw [hF4]
        show F3 X = tX4 z op (F3 X) E
        unfold tX4
        rw [if_pos c8]
      · unfold elP
        rw [if_pos c8]
    · have c8 : ¬ op / 8 % 2 = 0 := by omega
      refine mrbegin_Y (d := d + 122) (mr230 sh) (fun M3 f3 g1 g3 g5 g6 => ?_)
      have n3 := nInew M2 M3 n2 f3
      have w3 : rbO M3 T2 := rbO_F w2 (by rw [f3 168 (by omega)]) (by rw [f3 168 (by omega)]) (f3 212 (by omega))
      have LP : ∀ (N i : Nat) (M4 : FM), L.length - i < N → i ≤ L.length → nI M4 → rbO M4 T2 → mrO M4 230 231 232 233 z (exL rf (L.take i)) → fm_X (d + 123) kd262 257 [some (fx 168), some (ti lg), some (ti op), some (ti wh), some (tj v4), none, some (tj (-1)), none, some (ti ia), some (ti la), some (ti i), none, none, none] [] (sh, M4, nx, zl) K := by
        intro N
        induction N with
        | zero =>
          intro i M4 hN
          omega
        | succ N ih =>
          intro i M4 hN hi n4 w4 r4
          have f4 := nIf M4 n4
          have u63 : M4 168 63 = L.length := by rw [f4.2 63 (by decide) (by decide) (by decide) (by decide) (by decide) (by decide)]; exact h63
          have u69 : M4 168 69 = op := by rw [f4.2 69 (by decide) (by decide) (by decide) (by decide) (by decide) (by decide)]; exact h69
          rw [hzz] at r4
          refine s262_257 (d + 123) K _ _ _ ?_
          refine ⟨by omega, fun w => ?_, fun w => ?_⟩
          · have ei : i = L.length := by omega
            rw [ei, List.take_length, ← hE] at r4
            refine addTable_Y (d := d + 102) (s := T2) hop u69 r4 (by rw [hE, exL_len]; omega) w4 (fun M5 v f5 g0 bv w5 hv5 => ?_)
            rw [← hzz] at w5 hv5
            have S4 : stG t F4 (tbO z T2 E) := by
              refine stG_cg (stG_tb S3) (fun X => ?_)
              rw [hF4]
              show F3 X ++ tbT z (F3 X).length E = tX4 z op (F3 X) E
              unfold tX4
              rw [if_neg c8]
            refine ⟨by omega, ?_⟩
            refine B308 M5 _ v4 v _ (nIar M4 M5 n4 f5 g0) w5 S4 b4 (by omega) (fun X1 hX1 f => ⟨hv X1 hX1 (by have := le34 X1; omega), ?_⟩)
            have l34 := le34 X1
            have e3 := (S3.2 X1 hX1).1 (by omega)
            have e4 := (S4.2 X1 hX1).1 f
            rw [hv5 (F3 X1) e3 (by rw [e4]; simp)]
            unfold elP
            rw [if_neg c8]
          · obtain ⟨x, hx⟩ : ∃ x, L[i]? = some x := ⟨_, List.getElem?_eq_getElem (by omega)⟩
            obtain ⟨o1, o2⟩ := hord i x hx
            have u213 : M4 213 i = x := by rw [f4.1 213 (by omega) (by omega) (by omega) (by omega) (by omega)]; exact o1
            obtain ⟨m1, m2, m3⟩ := hP x (List.mem_of_getElem? hx)
            have u234 : M4 234 (M4 213 i) = P x := by rw [u213, f4.1 234 (by omega) (by omega) (by omega) (by omega) (by omega)]; exact m1
            have mE : mrE M4 226 228 z I := by
              rw [hnI] at n4
              exact n4.2.2.2.1
            have u228 : M4 228 (P x / 8192) = stI z I (P x) := by
              have := mE.2 (P x / 8192).toNat (by unfold pcN; omega)
              rw [show (((P x / 8192).toNat : Nat) : Int) = P x / 8192 by omega] at this
              exact this
            have sr := stI_r (z := z) I m2 (by omega)
            refine ⟨by omega, ?_⟩
            refine ⟨by omega, ?_⟩
            rw [u234]
            refine mreference_Y (d := d + 121) (mr226 sh) (by omega) (by omega) ?_
            rw [u228]
            refine addTo_Y (d := d + 103) (n := 8) (mr230 sh) hop u69 (by omega) (by omega) r4 (fun M5 f5 w5 => ?_)
            rw [← hzz] at w5
            have et : L.take (i + 1) = L.take i ++ [x] := by
              rw [List.take_add_one, hx]
              rfl
            have erf : stI z I (P x) * 65536 + P x % 8192 = rf x := by rw [hrf]
            rw [erf, ← exL_app, ← et] at w5
            exact ih (i + 1) M5 (by omega) (by omega) (nIma M4 M5 n4 f5 (mr0 w5)) (rbO_F w4 (f5.2 61 (by decide) (by decide) (by decide)) (f5.2 62 (by decide) (by decide) (by decide)) (f5.1 212 (by omega) (by omega) (by omega) (by omega) (by omega) (by omega))) w5
      have F := LP (L.length + 1) 0 M3 (by omega) (by omega) n3 w3 (mr_new f3 g1 g3 g5 g6 (nI0 M2 n2))
      exact F
  have v78 : M1 168 78 = T.length := by rw [Fm1.2 78 (by decide) (by decide) (by decide) (by decide) (by decide) (by decide)]; exact h78
  refine ⟨by omega, fun w => ?_, fun w => ?_⟩
  · have T0 : T = [] := List.eq_nil_of_length_eq_zero (by omega)
    refine B237 M1 _ (-1) none nI1 w1 (stG_cg S1 (fun X => ?_)) (by omega) (fun X1 _ _ => ?_)
    · rw [hF3]
      show F1 X = tX3 z (F1 X) T
      unfold tX3
      rw [if_pos T0]
    · unfold fglP
      rw [if_pos T0]
  · have T0 : T ≠ [] := fun e => by
      rw [e] at v78
      have : (([] : List (Int × Int)).length : Int) = 0 := rfl
      omega
    refine mrbegin_Y (d := d + 122) (mr230 sh) (fun M3 f3 g1 g3 g5 g6 => ?_)
    have n3 := nInew M1 M3 nI1 f3
    have w3 : rbO M3 (apO 131072 t U) := rbO_F w1 (by rw [f3 168 (by omega)]) (by rw [f3 168 (by omega)]) (f3 212 (by omega))
    have LP : ∀ (N i : Nat) (M4 : FM), T.length - i < N → i ≤ T.length → nI M4 → rbO M4 (apO 131072 t U) → mrO M4 230 231 232 233 z (tbB (T.take i)) → fm_X (d + 123) kd262 170 [some (fx 168), some (ti lg), some (ti op), some (ti wh), some (tj (-1)), none, some (tj (-1)), none, some (ti ia), some (ti la), some (ti i), none, none, none] [] (sh, M4, nx, zl) K := by
      intro N
      induction N with
      | zero =>
        intro i M4 hN
        omega
      | succ N ih =>
        intro i M4 hN hi n4 w4 r4
        have f4 := nIf M4 n4
        have u78 : M4 168 78 = T.length := by rw [f4.2 78 (by decide) (by decide) (by decide) (by decide) (by decide) (by decide)]; exact h78
        have u69 : M4 168 69 = op := by rw [f4.2 69 (by decide) (by decide) (by decide) (by decide) (by decide) (by decide)]; exact h69
        rw [hzz] at r4
        refine s262_170 (d + 123) K _ _ _ ?_
        refine ⟨by omega, fun w => ?_, fun w => ?_⟩
        · have ei : i = T.length := by omega
          rw [ei, List.take_length] at r4
          refine addTable_Y (d := d + 102) (s := apO 131072 t U) hop u69 r4 (by rw [tbB_len]; omega) w4 (fun M5 v f5 g0 bv w5 hv5 => ?_)
          rw [← hzz] at w5 hv5
          have S3 : stG t F3 (tbO z (apO 131072 t U) (tbB T)) := by
            refine stG_cg (stG_tb S1) (fun X => ?_)
            rw [hF3]
            show F1 X ++ tbT z (F1 X).length (tbB T) = tX3 z (F1 X) T
            unfold tX3
            rw [if_neg T0]
          refine ⟨by omega, ?_⟩
          refine B237 M5 _ v _ (nIar M4 M5 n4 f5 g0) w5 S3 (by omega) (fun X1 hX1 f => ?_)
          have l13 := le13 X1
          have e1 := (S1.2 X1 hX1).1 (by omega)
          have e3 := (S3.2 X1 hX1).1 f
          rw [hv5 (F1 X1) e1 (by rw [e3]; simp)]
          unfold fglP
          rw [if_neg T0]
        · obtain ⟨x, hx⟩ : ∃ x, T[i]? = some x := ⟨_, List.getElem?_eq_getElem (by omega)⟩
          obtain ⟨⟨o1, o2⟩, o3, o4⟩ := hT i x hx
          have u223 : M4 223 i = x.1 := by rw [f4.1 223 (by omega) (by omega) (by omega) (by omega) (by omega)]; exact o1
          refine ⟨by omega, ?_⟩
          refine ⟨by omega, ?_⟩
          refine addTo_Y (d := d + 103) (n := 8) (mr230 sh) hop u69 (by omega) (by omega) r4 (fun M5 f5 w5 => ?_)
          have u224 : M5 224 i = x.2 := by rw [f5.1 224 (by omega) (by omega) (by omega) (by omega) (by omega) (by omega), f4.1 224 (by omega) (by omega) (by omega) (by omega) (by omega)]; exact o2
          refine ⟨by omega, ?_⟩
          refine ⟨by omega, ?_⟩
          refine addTo_Y (d := d + 103) (n := 4) (mr230 sh) hop (by rw [f5.2 69 (by decide) (by decide) (by decide)]; exact u69) (by omega) (by omega) w5 (fun M6 f6 w6 => ?_)
          have f56 := maF_t f5 f6
          refine addTo_Y (d := d + 103) (n := 4) (mr230 sh) hop (by rw [f56.2 69 (by decide) (by decide) (by decide)]; exact u69) (by omega) (by omega) w6 (fun M7 f7 w7 => ?_)
          have f57 := maF_t f56 f7
          rw [← hzz, u223, u224] at w7
          have et : T.take (i + 1) = T.take i ++ [x] := by
            rw [List.take_add_one, hx]
            rfl
          have w8 : mrO M7 230 231 232 233 z (tbB (T.take (i + 1))) := by
            rw [et, tbB_app]
            simp only [List.append_assoc] at w7 ⊢
            exact w7
          exact ih (i + 1) M7 (by omega) (by omega) (nIma M4 M7 n4 f57 (mr0 w8)) (rbO_F w4 (f57.2 61 (by decide) (by decide) (by decide)) (f57.2 62 (by decide) (by decide) (by decide)) (f57.1 212 (by omega) (by omega) (by omega) (by omega) (by omega) (by omega))) w8
    have F := LP (T.length + 1) 0 M3 (by omega) (by omega) n3 w3 (mr_new f3 g1 g3 g5 g6 z1)
    exact F
end MFREEZE
