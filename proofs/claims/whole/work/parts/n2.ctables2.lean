/-! FREEZING: all tables, the class -/
/-- what became of an image t: F of it, or none where that is too much -/
def stG (t : Option (List Int)) (F : List Int → List Int) (T : Option (List Int)) : Prop := (t = none → T = none) ∧ ∀ X : List Int, t = some X → ((F X).length ≤ 131072 → T = some (F X)) ∧ (¬ (F X).length ≤ 131072 → T = none)
theorem stG_ap {t T : Option (List Int)} {F : List Int → List Int} {Y : List Int → List Int} (h : stG t F T) {T2 : Option (List Int)} (h2 : ∀ X : List Int, T = some X → T2 = apO 131072 (some X) (Y X)) (h3 : T = none → T2 = none) : stG t (fun X => F X ++ Y (F X)) T2 := by
  refine ⟨fun e => h3 (h.1 e), fun X hX => ?_⟩
  obtain ⟨a, b⟩ := h.2 X hX
  by_cases c : (F X).length ≤ 131072
  · have e := a c
    refine ⟨fun f => ?_, fun f => ?_⟩
    · rw [h2 _ e]
      rw [List.length_append] at f
      exact apO_fit f
    · rw [h2 _ e]
      rw [List.length_append] at f
      exact apO_not f
  · have e := b c
    refine ⟨fun f => ?_, fun _ => h3 e⟩
    rw [List.length_append] at f
    omega
theorem stG_tb {t T : Option (List Int)} {F : List Int → List Int} {z : Int} {R : List Int} (h : stG t F T) : stG t (fun X => F X ++ tbT z (F X).length R) (tbO z T R) := stG_ap (Y := fun X => tbT z X.length R) h (fun X hX => by rw [hX]; rfl) (fun e => by rw [e]; rfl)
theorem stG_cg {t T : Option (List Int)} {F G : List Int → List Int} (h : stG t F T) (e : ∀ X : List Int, F X = G X) : stG t G T := ⟨h.1, fun X hX => by rw [← e X]; exact h.2 X hX⟩
section CTABLES3
variable {d nx zl : Nat} {K : Option TV → FH → Prop} {sh : Nat → Option Shp} {M : FM} {op : Int}
theorem putTables_Y {lg wh B ia r0 : Int} {L ids U : List Int} {T : List (Int × Int)} {rf : Int → Int} {t u : Option (List Int)} (hC : pkC M) (hop : 0 ≤ op ∧ op ≤ 15) (hlg : 0 ≤ lg ∧ lg ≤ 100) (hwh : -2147483648 ≤ wh ∧ wh ≤ 2147483647) (hB : 0 ≤ B ∧ B ≤ 100000) (hia : 0 ≤ ia ∧ ia ≤ 131072) (h2 : M 18 2 = L.length) (hL : L.length ≤ 2000) (h16 : M 18 16 = B) (h17 : M 18 17 = op) (h18 : M 18 18 = ia) (hr0 : L[0]? = some r0)
    (hN : ∀ (i : Nat) (x : Int), L[i]? = some x → ∃ (a : Nat) (u v : Option Nat), M 21 ((i : Int) + 1) = a ∧ shp sh a = some (.inr (3, nodeFl u v)) ∧ (a = 17 ∨ 265 ≤ a) ∧ M a 15 = rf x ∧ -1 ≤ rf x ∧ rf x ≤ 8589942784)
    (z76 : pz M 76 78 79 77 8192 (tbB T)) (hTl : T.length ≤ 500) (z80 : pz M 80 82 83 81 16000 []) (z84 : pz M 84 86 87 85 16000 (idB ids)) (hids : ids.length ≤ 4000) (ht : rzO M 19 20 131072 t) (h96 : ∀ X : List Int, t = some X → 96 ≤ X.length) (hu : rzO M 88 89 65552 u) (hU : U = sl (M 89) 0 (M 88 1).toNat)
    (k : ∀ M2 : FM, (∀ c : Nat, c ≠ 19 → c ≠ 20 → (c < 22 ∨ 67 < c ∨ 49 < c ∧ c < 64) → (c < 76 ∨ 87 < c) → M2 c = M c) → (0 ≤ M2 19 1 ∧ M2 19 1 ≤ 131072) → (t = none → M2 19 2 = 1) → (∀ X1 : List Int, t = some X1 → (¬ (tX5 (1 - op % 2) (tX4 (1 - op % 2) op (tX3 (1 - op % 2) (X1 ++ U) T) (exL rf L)) ids).length ≤ 131072 → M2 19 2 = 1) ∧ ((tX5 (1 - op % 2) (tX4 (1 - op % 2) op (tX3 (1 - op % 2) (X1 ++ U) T) (exL rf L)) ids).length ≤ 131072 → M2 19 2 = 0 ∧ M2 19 1 = (tX5 (1 - op % 2) (tX4 (1 - op % 2) op (tX3 (1 - op % 2) (X1 ++ U) T) (exL rf L)) ids).length ∧ sl (M2 20) 0 (tX5 (1 - op % 2) (tX4 (1 - op % 2) op (tX3 (1 - op % 2) (X1 ++ U) T) (exL rf L)) ids).length = hdZ (hdA B lg op wh L.length T.length ids.length (rf r0)) (tX5 (1 - op % 2) (tX4 (1 - op % 2) op (tX3 (1 - op % 2) (X1 ++ U) T) (exL rf L)) ids).length (ilP (1 - op % 2) (tX4 (1 - op % 2) op (tX3 (1 - op % 2) (X1 ++ U) T) (exL rf L)) ids) ia X1.length (fglP (1 - op % 2) (X1 ++ U) T) (elP (1 - op % 2) op (tX3 (1 - op % 2) (X1 ++ U) T) (exL rf L)) ++ (tX5 (1 - op % 2) (tX4 (1 - op % 2) op (tX3 (1 - op % 2) (X1 ++ U) T) (exL rf L)) ids).drop 96)) → K none (sh, M2, nx, zl)) : fm_Y (d + 8) 122 [.ref 18, .int (Int32.ofInt lg), .int (Int32.ofInt wh)] (sh, M, nx, zl) K := by
  obtain ⟨z, hzz⟩ : ∃ z : Int, z = 1 - op % 2 := ⟨_, rfl⟩
  rw [← hzz] at k
  obtain ⟨E, hE⟩ : ∃ E : List Int, E = exL rf L := ⟨_, rfl⟩
  rw [← hE] at k
  have t19 := ht.1
  have u88 := hu.1
  have l78 : M 78 1 = 16 * (T.length : Nat) := by
    have := z76.1.2.1
    rw [tbB_len] at this
    omega
  have l86 : M 86 1 = 4 * (ids.length : Nat) := by
    have := z84.1.2.1
    rw [idB_len] at this
    omega
  obtain ⟨la, hla⟩ : ∃ la : Int, la = M 19 1 := ⟨_, rfl⟩
  have laX : ∀ X : List Int, t = some X → la = X.length := fun X hX => by
    rw [hX] at ht
    rw [hla]
    exact ht.2.1
  refine m122 [fx 18, ti lg, ti wh] ?_
  refine putAll_O (d := d + 6) (c := 89) (nc := 65552) (row19 sh) rfl (by omega) (by omega) (by omega) (by omega) (by omega) (by omega) ht (fun M1 f1 w1 => ?_)
  rw [← hU] at w1
  -- stages
  obtain ⟨F1, hF1⟩ : ∃ F1 : List Int → List Int, F1 = fun X => X ++ U := ⟨_, rfl⟩
  obtain ⟨F3, hF3⟩ : ∃ F3 : List Int → List Int, F3 = fun X => tX3 z (F1 X) T := ⟨_, rfl⟩
  obtain ⟨F4, hF4⟩ : ∃ F4 : List Int → List Int, F4 = fun X => tX4 z op (F3 X) E := ⟨_, rfl⟩
  obtain ⟨F5, hF5⟩ : ∃ F5 : List Int → List Int, F5 = fun X => tX5 z (F4 X) ids := ⟨_, rfl⟩
  have k2 : ∀ M2 : FM, (∀ c : Nat, c ≠ 19 → c ≠ 20 → (c < 22 ∨ 67 < c ∨ 49 < c ∧ c < 64) → (c < 76 ∨ 87 < c) → M2 c = M c) → (0 ≤ M2 19 1 ∧ M2 19 1 ≤ 131072) → (t = none → M2 19 2 = 1) → (∀ X1 : List Int, t = some X1 → (¬ (F5 X1).length ≤ 131072 → M2 19 2 = 1) ∧ ((F5 X1).length ≤ 131072 → M2 19 2 = 0 ∧ M2 19 1 = (F5 X1).length ∧ sl (M2 20) 0 (F5 X1).length = hdZ (hdA B lg op wh L.length T.length ids.length (rf r0)) (F5 X1).length (ilP z (F4 X1) ids) ia X1.length (fglP z (F1 X1) T) (elP z op (F3 X1) E) ++ (F5 X1).drop 96)) → K none (sh, M2, nx, zl) := by
    rw [hF5, hF4, hF3, hF1]
    exact k
  have le13 : ∀ X : List Int, (F1 X).length ≤ (F3 X).length := fun X => by rw [hF3]; exact tX3_le _ _ _
  have le34 : ∀ X : List Int, (F3 X).length ≤ (F4 X).length := fun X => by rw [hF4]; exact tX4_le _ _ _ _
  have le45 : ∀ X : List Int, (F4 X).length ≤ (F5 X).length := fun X => by rw [hF5]; exact tX5_le _ _ _
  have le01 : ∀ X : List Int, X.length ≤ (F1 X).length := fun X => by rw [hF1]; show X.length ≤ (X ++ U).length; rw [List.length_append]; omega
  have S1 : stG t F1 (apO 131072 t U) := by
    rw [hF1]
    refine ⟨fun e => by rw [e]; rfl, fun X hX => ?_⟩
    rw [hX]
    show ((X ++ U).length ≤ 131072 → _) ∧ (¬ (X ++ U).length ≤ 131072 → _)
    rw [List.length_append]
    exact ⟨fun f => apO_fit f, fun f => apO_not f⟩
  -- ids and the head
  have B123 : ∀ (M3 : FM) (T3 : Option (List Int)) (v4 v6 : Int) (y8 y9 y10 : Option TV), (∀ c : Nat, c ≠ 19 → c ≠ 20 → (c < 22 ∨ 67 < c ∨ 49 < c ∧ c < 64) → (c < 76 ∨ 87 < c) → M3 c = M c) → M3 78 = M 78 → pz M3 84 86 87 85 16000 (idB ids) → rzO M3 19 20 131072 T3 → stG t F4 T3 → (-1 ≤ v4 ∧ v4 ≤ 131072) → (-1 ≤ v6 ∧ v6 ≤ 131072) → (∀ X1 : List Int, t = some X1 → (F4 X1).length ≤ 131072 → v4 = fglP z (F1 X1) T ∧ v6 = elP z op (F3 X1) E) → b122_123 (d + 7) (fW (d + 7) kd122 K) K [some (fx 18), some (ti lg), some (ti wh), some (ti la), some (tj v4), none, some (tj v6), none, y8, y9, y10] [] (sh, M3, nx, zl) := by
    intro M3 T3 v4 v6 y8 y9 y10 f3 g78 p84 w3 S4 b4 b6 hv
    refine putTable_Y (d := d) (t := T3) (ps84 sh) (pkC_c hC (fun c hc => f3 c (by omega) (by omega) (by omega) (by omega))) hop (by rw [f3 18 (by omega) (by omega) (by omega) (by omega)]; exact h17) p84 w3 (fun M4 v f4 bv w4 hv4 => ?_)
    rw [← hzz] at w4 hv4
    have S5 : stG t F5 (tbO z T3 (idB ids)) := by
      rw [hF5]
      exact stG_tb S4
    obtain ⟨T4, hT4⟩ : ∃ T4, T4 = tbO z T3 (idB ids) := ⟨_, rfl⟩
    rw [← hT4] at w4 hv4 S5
    have o4 : ∀ c : Nat, c ≠ 19 → c ≠ 20 → (c < 22 ∨ 67 < c ∨ 49 < c ∧ c < 64) → (c < 76 ∨ 87 < c) → M4 c = M c := fun c c1 c2 c3 c4 => by rw [f4.1 c (by omega) (by omega) c1 c2 (by omega), f3 c c1 c2 c3 c4]
    have m19 := w4.1
    refine ⟨by omega, ?_⟩
    obtain ⟨P, gP⟩ : ∃ P : FM, P = um M4 19 (ur (M4 19) 1 0) := ⟨_, rfl⟩
    have po : ∀ c : Nat, c ≠ 19 → P c = M4 c := fun c hc => by rw [gP, um_ne hc]
    have p1 : P 19 1 = 0 := by rw [gP, um_at, ur_at]
    have p2 : P 19 2 = M4 19 2 := by rw [gP, um_at, ur_ne (by decide)]
    have W0 : rzW P T4 0 := by
      refine ⟨by omega, ?_⟩
      cases hc : T4 with
      | none =>
        rw [hc] at w4
        show P 19 2 = 1
        rw [p2]
        exact w4.2
      | some X =>
        rw [hc] at w4
        obtain ⟨b0, b1, b2, b3⟩ := w4
        refine ⟨⟨by rw [p1]; rfl, Nat.zero_le _, by omega⟩, ?_, by rw [p2]; exact b3⟩
        rw [po 20 (by omega)]
        exact b2
    have h96' : ovH T4 96 := fun X hX => by
      cases ht1 : t with
      | none =>
        have := S5.1 ht1
        rw [this] at hX
        cases hX
      | some X1 =>
        have a := h96 X1 ht1
        by_cases c : (F5 X1).length ≤ 131072
        · have e := ((S5.2 X1 ht1).1 c).symm.trans hX
          rw [← Option.some.inj e]
          have q1 := le01 X1
          have q2 := le13 X1
          have q3 := le34 X1
          have q4 := le45 X1
          omega
        · have e := ((S5.2 X1 ht1).2 c).symm.trans hX
          cases e
    obtain ⟨a, uu, vv, n1, n2, n3, n4, n5⟩ := hN 0 r0 hr0
    have oP : ∀ c : Nat, c ≠ 19 → c ≠ 20 → (c < 22 ∨ 67 < c ∨ 49 < c ∧ c < 64) → (c < 76 ∨ 87 < c) → P c = M c := fun c c1 c2 c3 c4 => by rw [po c c1, o4 c c1 c2 c3 c4]
    have T5 : (o_al 0 (o_il 1 (o_il 2 (o_callv (d + 7) 124 2 4 (o_al 0 (o_get 4 0 0 (o_il 10 (o_i2l (o_callv (d + 7) 102 1 1 (o_al 0 (o_get 4 0 0 (b122_171 (d + 7) (fW (d + 7) kd122 K) K))))))))))) : FC) [some (fx 18), some (ti lg), some (ti wh), some (ti la), some (tj v4), none, some (tj v6), none, some (tj v), none, some (ti (M4 19 1))] [] (sh, P, nx, zl) := by
      have q18 : P 18 = M 18 := oP 18 (by omega) (by omega) (by omega) (by omega)
      have q86 : P 86 = M3 86 := by rw [po 86 (by omega), f4.1 86 (by omega) (by omega) (by omega) (by omega) (by omega)]
      have q861 : M3 86 1 = 4 * (ids.length : Nat) := by
        have := p84.1.2.1
        rw [idB_len] at this
        omega
      refine putHead_Y (d := d + 4) (o := T4) (nF := T.length) (nI := ids.length) (rr := rf r0) (a := a) (nL := L.length) hop hlg hwh hB (by omega) (by rw [q18]; exact h2) (by rw [q18]; exact h16) (by rw [q18]; exact h17) (by rw [po 78 (by omega), f4.1 78 (by omega) (by omega) (by omega) (by omega) (by omega), g78]; exact l78) (by omega) (by rw [q86]; exact q861) hids (by rw [oP 21 (by omega) (by omega) (by omega) (by omega)]; exact n1) n2 n3 (by rw [oP a (by omega) (by omega) (by omega) (by omega)]; exact n4) n5 W0 h96' (fun M5 f5 w5 => ?_)
      have w5' : rzW M5 (ovO T4 0 (hdA B lg op wh L.length T.length ids.length (rf r0))) (hdA B lg op wh L.length T.length ids.length (rf r0)).length := by
        rw [hdA_len]
        exact w5
      refine ⟨by omega, ?_⟩
      refine putEight_H (d := d + 5) (by omega) w5' h96' (by simp only [List.length_append, hdA_len, leL_len]; omega) (fun M6 f6 w6 => ?_)
      refine putEight_H (d := d + 5) (by omega) w6 h96' (by simp only [List.length_append, hdA_len, leL_len]; omega) (fun M7 f7 w7 => ?_)
      refine putEight_H (d := d + 5) (by omega) w7 h96' (by simp only [List.length_append, hdA_len, leL_len]; omega) (fun M8 f8 w8 => ?_)
      have o8 : ∀ c : Nat, c ≠ 19 → c ≠ 20 → M8 c = P c := fun c c1 c2 => by rw [f8 c c1 c2, f7 c c1 c2, f6 c c1 c2, f5 c c1 c2]
      have v18 : M8 18 18 = ia := by rw [o8 18 (by omega) (by omega), q18]; exact h18
      refine ⟨by omega, ?_⟩
      refine putEight_H (d := d + 5) (by omega) w8 h96' (by simp only [List.length_append, hdA_len, leL_len]; omega) (fun M9 f9 w9 => ?_)
      refine ⟨by omega, ?_⟩
      refine putEight_H (d := d + 5) (by omega) w9 h96' (by simp only [List.length_append, hdA_len, leL_len]; omega) (fun Ma fa wa => ?_)
      refine putEight_H (d := d + 5) (by omega) wa h96' (by simp only [List.length_append, hdA_len, leL_len]; omega) (fun Mb fb wb => ?_)
      refine putEight_H (d := d + 5) (by omega) wb h96' (by simp only [List.length_append, hdA_len, leL_len]; omega) (fun Mc fc wc => ?_)
      rw [v18] at wc
      have oc : ∀ c : Nat, c ≠ 19 → c ≠ 20 → Mc c = P c := fun c c1 c2 => by rw [fc c c1 c2, fb c c1 c2, fa c c1 c2, f9 c c1 c2, o8 c c1 c2]
      obtain ⟨HD, hHD⟩ : ∃ HD, HD = hdZ (hdA B lg op wh L.length T.length ids.length (rf r0)) (M4 19 1) v ia la v4 v6 := ⟨_, rfl⟩
      have wd : rzW Mc (ovO T4 0 HD) HD.length := by
        rw [hHD]
        exact wc
      have lHD : HD.length = 96 := by rw [hHD, hdZ_len, hdA_len]
      obtain ⟨R, gR⟩ : ∃ R : FM, R = um Mc 19 (ur (Mc 19) 1 (M4 19 1)) := ⟨_, rfl⟩
      have r1 : R 19 1 = M4 19 1 := by rw [gR, um_at, ur_at]
      have r2 : R 19 2 = Mc 19 2 := by rw [gR, um_at, ur_ne (by decide)]
      have r20 : R 20 = Mc 20 := by rw [gR, um_ne (by decide)]
      have FF := k2 R (fun c c1 c2 c3 c4 => by rw [gR, um_ne c1, oc c c1 c2, oP c c1 c2 c3 c4]) (by rw [r1]; exact m19) (fun e => ?_) (fun X1 hX1 => ⟨fun f => ?_, fun f => ?_⟩)
      · rw [gR] at FF
        exact FF
      · rw [r2]
        rw [S5.1 e] at wd
        exact wd.2
      · rw [r2]
        rw [(S5.2 X1 hX1).2 f] at wd
        exact wd.2
      · have e5 := (S5.2 X1 hX1).1 f
        rw [e5] at wd w4
        have wd2 : (Mc 19 1 = (HD.length : Nat) ∧ HD.length ≤ (ovL (F5 X1) 0 HD).length ∧ (ovL (F5 X1) 0 HD).length ≤ 131072) ∧ sl (Mc 20) 0 (ovL (F5 X1) 0 HD).length = ovL (F5 X1) 0 HD ∧ Mc 19 2 = 0 := wd.2
        have l4 := le45 X1
        have l96 : 96 ≤ (F5 X1).length := by
          have := h96' (F5 X1) e5
          exact this
        have oe : ovL (F5 X1) 0 HD = HD ++ (F5 X1).drop 96 := by
          have := ovL_eq HD (F5 X1) [] (by omega)
          rw [lHD] at this
          exact this
        have ul : M4 19 1 = (F5 X1).length := w4.2.1
        have ev : v = ilP z (F4 X1) ids := by
          have e3 := (S4.2 X1 hX1).1 (by omega)
          have := hv4 (F4 X1) e3 (by rw [e5]; simp)
          rw [this]
          rfl
        obtain ⟨q1, q2⟩ := hv X1 hX1 (by omega)
        refine ⟨by rw [r2]; exact wd2.2.2, by rw [r1]; exact ul, ?_⟩
        have sl1 := wd2.2.1
        rw [ovL_len, oe] at sl1
        rw [r20, sl1, hHD, ul, ev, q1, q2, laX X1 hX1]
    rw [gP] at T5
    exact T5
  -- exports
  have B59 : ∀ (M3 : FM) (T2 : Option (List Int)) (v4 : Int) (y6 y7 y8 y9 y10 : Option TV), (∀ c : Nat, c ≠ 19 → c ≠ 20 → (c < 22 ∨ 67 < c ∨ 49 < c ∧ c < 64) → c ≠ 76 → c ≠ 77 → M3 c = M c) → rzO M3 19 20 131072 T2 → stG t F3 T2 → (-1 ≤ v4 ∧ v4 ≤ 131072) → (∀ X1 : List Int, t = some X1 → (F3 X1).length ≤ 131072 → v4 = fglP z (F1 X1) T) → b122_59 (d + 7) (fW (d + 7) kd122 K) K [some (fx 18), some (ti lg), some (ti wh), some (ti la), some (tj v4), none, y6, y7, y8, y9, y10] [] (sh, M3, nx, zl) := by
    intro M3 T2 v4 y6 y7 y8 y9 y10 f3 w3 S3 b4 hv
    have q18 : M3 18 = M 18 := f3 18 (by omega) (by omega) (by omega) (by omega) (by omega)
    have p84 : pz M3 84 86 87 85 16000 (idB ids) := pz_F z84 (f3 84 (by omega) (by omega) (by omega) (by omega) (by omega)) (f3 86 (by omega) (by omega) (by omega) (by omega) (by omega)) (f3 87 (by omega) (by omega) (by omega) (by omega) (by omega)) (f3 85 (by omega) (by omega) (by omega) (by omega) (by omega))
    have v17 : M3 18 17 = op := by rw [q18]; exact h17
    refine ⟨_, (iand_op (op := M3 18 17) (by rw [v17]; exact hop)).2.2, ?_⟩
    rw [v17]
    refine ⟨by omega, fun w => ?_, fun w => ?_⟩
    · have c8 : op / 8 % 2 = 0 := by omega
      refine B123 M3 T2 v4 (-1) _ _ _ (fun c c1 c2 c3 c4 => f3 c c1 c2 c3 (by omega) (by omega)) (f3 78 (by omega) (by omega) (by omega) (by omega) (by omega)) p84 w3 (stG_cg S3 (fun X => ?_)) b4 (by omega) (fun X1 hX1 f => ⟨hv X1 hX1 (by have := le34 X1; omega), ?_⟩)
      · rw [hF4]
        show F3 X = tX4 z op (F3 X) E
        unfold tX4
        rw [if_pos c8]
      · unfold elP
        rw [if_pos c8]
    · have c8 : ¬ op / 8 % 2 = 0 := by omega
      have LP : ∀ (N i : Nat) (M4 : FM), L.length - i < N → i ≤ L.length → (∀ y : Nat, y ≠ 82 → y ≠ 83 → M4 y = M3 y) → rzO M4 82 83 16000 (some (exL rf (L.take i))) → fm_X (d + 7) kd122 77 [some (fx 18), some (ti lg), some (ti wh), some (ti la), some (tj v4), none, some (tj (-1)), none, some (ti ((i : Int) + 1)), y9, y10] [] (sh, M4, nx, zl) K := by
        intro N
        induction N with
        | zero =>
          intro i M4 hN4
          omega
        | succ N ih =>
          intro i M4 hN4 hi f4 w4
          have q18' : M4 18 2 = L.length := by rw [f4 18 (by omega) (by omega), q18]; exact h2
          refine s122_77 (d + 7) K _ _ _ ?_
          refine ⟨by omega, fun w => ?_, fun w => ?_⟩
          · have ei : i = L.length := by omega
            rw [ei, List.take_length, ← hE] at w4
            have p80 : pz M4 80 82 83 81 16000 E := ⟨w4, by rw [f4 80 (by omega) (by omega), f3 80 (by omega) (by omega) (by omega) (by omega) (by omega)]; exact z80.2.1, by rw [f4 81 (by omega) (by omega), f3 81 (by omega) (by omega) (by omega) (by omega) (by omega)]; exact z80.2.2⟩
            have w5 : rzO M4 19 20 131072 T2 := rzO_F w3 (f4 19 (by omega) (by omega)) (f4 20 (by omega) (by omega))
            refine putTable_Y (d := d) (t := T2) (ps80 sh) (pkC_c hC (fun c hc => by rw [f4 c (by omega) (by omega), f3 c (by omega) (by omega) (by omega) (by omega) (by omega)])) hop (by rw [f4 18 (by omega) (by omega)]; exact v17) p80 w5 (fun M5 v f5 bv w6 hv6 => ?_)
            rw [← hzz] at w6 hv6
            have S4 : stG t F4 (tbO z T2 E) := by
              refine stG_cg (stG_tb S3) (fun X => ?_)
              rw [hF4]
              show F3 X ++ tbT z (F3 X).length E = tX4 z op (F3 X) E
              unfold tX4
              rw [if_neg c8]
            have o5 : ∀ c : Nat, c ≠ 19 → c ≠ 20 → (c < 22 ∨ 67 < c ∨ 49 < c ∧ c < 64) → (c < 76 ∨ c = 78 ∨ 83 < c) → M5 c = M c := fun c c1 c2 c3 c4 => by rw [f5.1 c (by omega) (by omega) c1 c2 (by omega), f4 c (by omega) (by omega), f3 c c1 c2 c3 (by omega) (by omega)]
            refine ⟨by omega, ?_⟩
            refine B123 M5 _ v4 v _ _ _ (fun c c1 c2 c3 c4 => o5 c c1 c2 c3 (by omega)) (o5 78 (by omega) (by omega) (by omega) (by omega)) (pz_F z84 (o5 84 (by omega) (by omega) (by omega) (by omega)) (o5 86 (by omega) (by omega) (by omega) (by omega)) (o5 87 (by omega) (by omega) (by omega) (by omega)) (o5 85 (by omega) (by omega) (by omega) (by omega))) w6 S4 b4 (by omega) (fun X1 hX1 f => ⟨hv X1 hX1 (by have := le34 X1; omega), ?_⟩)
            have l34 := le34 X1
            have e3 := (S3.2 X1 hX1).1 (by omega)
            have e4 := (S4.2 X1 hX1).1 f
            rw [hv6 (F3 X1) e3 (by rw [e4]; simp)]
            unfold elP
            rw [if_neg c8]
          · obtain ⟨x, hx⟩ : ∃ x, L[i]? = some x := ⟨_, List.getElem?_eq_getElem (by omega)⟩
            obtain ⟨a, uu, vv, n1, n2, n3, n4, n5⟩ := hN i x hx
            have g21 : M4 21 ((i : Int) + 1) = a := by rw [f4 21 (by omega) (by omega), f3 21 (by omega) (by omega) (by omega) (by omega) (by omega)]; exact n1
            have ga : M4 a 15 = rf x := by rw [f4 a (by omega) (by omega), f3 a (by omega) (by omega) (by omega) (by omega) (by omega)]; exact n4
            refine ⟨by omega, fun m hm => ?_, fun hm => by omega⟩
            have em : m = a := by omega
            rw [em]
            refine ⟨_, n2, ?_⟩
            refine putEight_O (d := d + 5) (ps80 sh).1.2.1 (by omega) w4 (fun M5 f5 w5 => ?_)
            rw [ga] at w5
            have F := ih (i + 1) M5 (by omega) (by omega) (fun y y1 y2 => by rw [f5 y y1 y2, f4 y y1 y2]) ?_
            · rw [show ((i + 1 : Nat) : Int) + 1 = (i : Int) + 1 + 1 by omega] at F
              exact F
            · have et : L.take (i + 1) = L.take i ++ [x] := by
                rw [List.take_add_one, hx]
                rfl
              have l1 : (L.take i).length ≤ 1999 := by
                rw [List.length_take]
                omega
              rw [apO_fit (by rw [exL_len, leL_len]; omega), ← exL_app, ← et] at w5
              exact w5
      have F := LP (L.length + 1) 0 M3 (by omega) (by omega) (fun _ _ _ => rfl) (rzO_F z80.1 (f3 82 (by omega) (by omega) (by omega) (by omega) (by omega)) (f3 83 (by omega) (by omega) (by omega) (by omega) (by omega)))
      exact F
  have v78 : M1 78 1 = 16 * (T.length : Nat) := by rw [f1 78 (by omega) (by omega)]; exact l78
  have e76 : ∀ c : Nat, c ≠ 19 → c ≠ 20 → M1 c = M c := fun c c1 c2 => f1 c c1 c2
  have T0 : (o_lc (-1) (o_ls 4 (o_al 0 (o_get 4 6 6 (o_get 7 0 0 (o_get 1 1 1 (o_if .le (b122_59 (d + 7) (fW (d + 7) kd122 K) K) (o_al 0 (o_al 0 (o_get 4 6 6 (o_callv (d + 7) 123 1 4 (b122_56 (d + 7) (fW (d + 7) kd122 K) K))))))))))) : FC) [some (fx 18), some (ti lg), some (ti wh), some (ti la), none, none, none, none, none, none, none] [] (sh, M1, nx, zl) := by
    refine ⟨by omega, fun w => ?_, fun w => ?_⟩
    · have T0 : T = [] := List.eq_nil_of_length_eq_zero (by omega)
      refine B59 M1 _ (-1) none none none none none (fun c c1 c2 _ _ _ => e76 c c1 c2) w1 (stG_cg S1 (fun X => ?_)) (by omega) (fun X1 _ _ => ?_)
      · rw [hF3]
        show F1 X = tX3 z (F1 X) T
        unfold tX3
        rw [if_pos T0]
      · unfold fglP
        rw [if_pos T0]
    · have T0 : T ≠ [] := fun e => by
        rw [e] at v78
        have : (([] : List (Int × Int)).length : Int) = 0 := rfl
        omega
      refine putTable_Y (d := d) (t := apO 131072 t U) (ps76 sh) (pkC_c hC (fun c hc => e76 c (by omega) (by omega))) hop (by rw [e76 18 (by omega) (by omega)]; exact h17) (pz_F z76 (e76 76 (by omega) (by omega)) (e76 78 (by omega) (by omega)) (e76 79 (by omega) (by omega)) (e76 77 (by omega) (by omega))) w1 (fun M3 v f3 bv w3 hv3 => ?_)
      rw [← hzz] at w3 hv3
      have S3 : stG t F3 (tbO z (apO 131072 t U) (tbB T)) := by
        refine stG_cg (stG_tb S1) (fun X => ?_)
        rw [hF3]
        show F1 X ++ tbT z (F1 X).length (tbB T) = tX3 z (F1 X) T
        unfold tX3
        rw [if_neg T0]
      refine ⟨by omega, ?_⟩
      refine B59 M3 _ v none none none none none (fun c c1 c2 c3 c4 c5 => by rw [f3.1 c c4 c5 c1 c2 (by omega), e76 c c1 c2]) w3 S3 (by omega) (fun X1 hX1 f => ?_)
      have l13 := le13 X1
      have e1 := (S1.2 X1 hX1).1 (by omega)
      have e3 := (S3.2 X1 hX1).1 f
      rw [hv3 (F1 X1) e1 (by rw [e3]; simp)]
      unfold fglP
      rw [if_neg T0]
  rw [hla] at T0
  exact T0
end CTABLES3
