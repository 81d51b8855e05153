/-! FREEZING: the class, up to the image -/
theorem cp_new {M : FM} {q r b st ta tb nt : Nat} {z : Int} {I0 : List Int} (h : pz M q r b st 65536 []) (ht : rzO M ta tb nt (some I0)) : cpO M q r b st ta tb nt z (some I0) (some []) := by
  obtain ⟨h1, h2, h3⟩ := h
  have e1 : M r 1 = 0 := h1.2.1
  have C0 : ∀ i : Nat, i ≤ 0 → M st i = 0 := fun i hi => by
    have ei : i = 0 := by omega
    rw [ei]
    exact h3
  refine ⟨h1, ⟨0, ⟨h2, by omega, fun i hi => ?_⟩, by omega⟩, ⟨_, ht, fun X0 X a b => ?_⟩, fun C hC => ?_⟩
  · rw [C0 i hi]
    omega
  · rw [← Option.some.inj a, ← Option.some.inj b]
    exact Nat.le_refl _
  · rw [← Option.some.inj hC]
    refine ⟨h2, fun i hi => ?_, ?_⟩
    · have hi2 : i ≤ 0 / 8192 := hi
      rw [C0 i (by omega), show i = 0 by omega]
      rfl
    · show rzO M ta tb nt (apO nt (some I0) [])
      rw [rzO_nil ht]
      exact ht
/-- numbers as the class has them -/
def cnN (M0 M : FM) (L : List Int) : Prop := M 18 2 = L.length ∧ ∀ (i : Nat) (x : Int), L[i]? = some x → M 21 ((i : Int) + 1) = M0 11 x ∧ M (M0 11 x).toNat 14 = (i : Int) + 1
section CFREEZE
variable {d nx zl : Nat} {K : Option TV → FH → Prop} {sh : Nat → Option Shp} {M : FM}
theorem cfreeze_Y {lg op wh : Int} (hT : treeR sh M) (hC : pkC M) (hlg : -2147483648 ≤ lg ∧ lg ≤ 2147483647) (hop : -2147483648 ≤ op ∧ op ≤ 2147483647) (hwh : -2147483648 ≤ wh ∧ wh ≤ 2147483647)
    (kb : lg < 12 ∨ 16 < lg ∨ op < 0 ∨ 15 < op → K (some (ti (-1))) (sh, M, nx, zl))
    (kf : ∀ (M2 : FM) (B : Nat), (12 ≤ lg ∧ lg ≤ 16) → (0 ≤ op ∧ op ≤ 15) → (2 : Int) ^ lg.toNat = B → bB5 B → fzF sh M M2 → (∀ s : RS, fzO M op B = some s → ¬ (fzT M op B s).length ≤ 131072) → K (some (ti (-6))) (sh, M2, nx, zl))
    (kg : ∀ (M2 M3 : FM) (B : Nat) (s : RS), (12 ≤ lg ∧ lg ≤ 16) → (0 ≤ op ∧ op ≤ 15) → (2 : Int) ^ lg.toNat = B → bB5 B → fzF sh M M2 → (∀ c : Nat, c ≠ 98 → c ≠ 99 → M3 c = M2 c) → fzO M op B = some s → (fzT M op B s).length ≤ 131072 → cnN M M3 (nuL M) → rzO M3 98 99 131072 (some (fzX M lg op wh B s)) → (o_al 0 (o_ic 0 (o_put 0 6 6 (o_al 0 (o_al 0 (o_get 0 4 4 (o_callv (d + 123) 127 0 8 (o_if .ne (o_al 0 (o_get 0 3 3 (o_get 4 2 2 (b52_152 (d + 123) (fW (d + 123) kd52 K) K)))) (o_al 0 (o_callv (d + 123) 209 0 0 (b52_152 (d + 123) (fW (d + 123) kd52 K) K)))))))))) : FC) [some (fx 3), some (ti lg), some (ti op), some (ti wh)] [] (sh, M3, nx, zl)) :
    fm_Y (d + 124) 52 [.ref 3, .int (Int32.ofInt lg), .int (Int32.ofInt op), .int (Int32.ofInt wh)] (sh, M, nx, zl) K := by
  have hW := hT.1
  refine m52 [fx 3, ti lg, ti op, ti wh] ?_
  refine ⟨by omega, fun w => kb (by omega), fun w1 => ?_⟩
  refine ⟨by omega, fun w => kb (by omega), fun w2 => ?_⟩
  refine ⟨by omega, fun w => kb (by omega), fun w3 => ?_⟩
  refine ⟨by omega, fun w4 => ?_, fun w => kb (by omega)⟩
  have rlg : 12 ≤ lg ∧ lg ≤ 16 := by omega
  have rop : 0 ≤ op ∧ op ≤ 15 := by omega
  obtain ⟨B, eB, hB⟩ := bB5_lg rlg
  have br := bB5_r hB
  refine begin_Y (d := d + 118) hT rlg rop (fun M1 f1 s1 u1 r1 => ?_)
  obtain ⟨L, hL⟩ : ∃ L : List Int, L = nuL M := ⟨_, rfl⟩
  obtain ⟨ids, hids⟩ : ∃ ids : List Int, ids = idL M := ⟨_, rfl⟩
  have hP : nuP M L := by rw [hL]; exact nuG_P hW 2000
  have LL := nuP_len hW hP
  have hsx := sx_of (op := op) hW rop hB
  rw [← hL, ← hids] at hsx
  rw [← hL] at u1
  rw [← hids] at s1
  obtain ⟨⟨⟨a16, a17⟩, a19, a88, a90, a92⟩, p68, p72, p76, p80, p84⟩ := id s1
  have C1 : pkC M1 := pkC_c hC (fun c hc => f1.1.1 c (by omega))
  have D1 : daC M1 (dtD M op B L 0) := ⟨a19, a92, a90, p76.1⟩
  refine putData_Y (d := d + 115) (B := B) hT f1.1 hP u1 hB rop (by rw [a16]; exact eB) a17 C1 D1 (fun M2 f2 s2 g18 => ?_)
  obtain ⟨D, hD⟩ : ∃ D : DS, D = dtE M op B L := ⟨_, rfl⟩
  rw [← hD] at s2 g18 hsx
  have eDs : D = dtE M op B (nuL M) := by rw [hD, hL]
  have N : ∀ y ∈ L, (M 11 y).toNat = 17 ∨ 265 ≤ (M 11 y).toNat := fun y hy => by
    obtain ⟨b, u, v, eb, -, hb3, -⟩ := nd_of hT (hP.2 y hy)
    rw [eb]
    exact hb3
  have e11 : M1 11 = M 11 := f1.1.1 11 (by omega)
  have z02 := fzF_t f1.1 (dzF_fz f2)
  have cn2 : cnN M M2 L := by
    refine ⟨by rw [f2.2.1 2 (by decide)]; exact u1.1, fun i x hx => ?_⟩
    have q := u1.2.1 i x hx
    rw [e11] at q
    exact ⟨by rw [f2.1 21 (by omega)]; exact q.1, by rw [f2.2.2.2 _ 14 (N x (List.mem_of_getElem? hx)) (by omega)]; exact q.2⟩
  have L0 : L[0]? = some 0 := by
    rw [hL]
    obtain ⟨X, hX⟩ := nuG_pre M 0 2000
    have e : nuL M = nuG M 0 ++ X := by
      unfold nuL
      rw [← hX, show 0 + 2000 = 2000 by omega]
    rw [e]
    rfl
  have cx2 : cxC sh M M2 op B L ids D := by
    refine ⟨hT, z02, ⟨cn2.1, fun x hx => ?_, ?_⟩, pkC_c C1 (fun c hc => f2.1 c (by omega)), ⟨by rw [f2.2.1 16 (by decide), a16]; exact eB, by rw [f2.2.1 17 (by decide)]; exact a17⟩, ⟨rzO_F p84.1 (f2.1 86 (by omega)) (f2.1 87 (by omega)), hsx.2.2.2.2.2.1.1, hsx.2.2.2.2.2.1.2.1⟩, s2.1.2.1, fun y hy y2 => ?_⟩
    · obtain ⟨i, hi, ex⟩ := List.getElem_of_mem hx
      have hg : L[i]? = some x := by rw [← ex]; exact List.getElem?_eq_getElem hi
      rw [nu_at hP.1 hg]
      exact (cn2.2 i x hg).2
    · have := (cn2.2 0 0 L0).1
      exact this
    · obtain ⟨i, hi, ex⟩ := List.getElem_of_mem hy
      exact s2.2 i y hi (by rw [← ex]; exact List.getElem?_eq_getElem hi) y2
  have hI2 : cpO M2 68 70 71 69 19 20 131072 (1 - op % 2) (some (dI D)) (some []) := cp_new (pz_F p68 (f2.1 68 (by omega)) (f2.1 70 (by omega)) (f2.1 71 (by omega)) (f2.1 69 (by omega))) s2.1.1
  have hQ2 : cpO M2 72 74 75 73 88 89 65552 (1 - op % 2) (some []) (some []) := cp_new (pz_F p72 (f2.1 72 (by omega)) (f2.1 74 (by omega)) (f2.1 75 (by omega)) (f2.1 73 (by omega))) (rzO_F a88 (f2.1 88 (by omega)) (f2.1 89 (by omega)))
  refine putRows_Y (d := d + 115) hsx cx2 hI2 hQ2 (fun x hx => ?_) (co_le hT) (fun M3 f3 t3 u3 fl3 b3 n3 o3 => ?_)
  · rw [f2.2.2.2 _ 15 (N x hx) (by omega)]
    exact r1 x (hP.2 x hx)
  have cx3 := cxC_w hP cx2 f3
  obtain ⟨t, t3, lb⟩ := t3
  obtain ⟨u, u3⟩ := u3
  obtain ⟨db1, db2, db3, db4, db5⟩ := dtE_b (op := op) (B := B) hW hP hB
  rw [← hD] at db1 db2 db3 db4 db5
  obtain ⟨rf, hrf⟩ : ∃ rf : Int → Int, rf = fun x => M3 (M 11 x).toNat 15 := ⟨_, rfl⟩
  have cn3 : cnN M M3 L := ⟨cx3.2.2.1.1, fun i x hx => ⟨by rw [f3.1 21 (by omega)]; exact (cn2.2 i x hx).1, by rw [f3.2.2.2.1 _ 14 (N x (List.mem_of_getElem? hx)) (by decide)]; exact (cn2.2 i x hx).2⟩⟩
  have q76 : pz M3 76 78 79 77 8192 (tbB (dT D)) := ⟨rzO_F s2.1.2.2.2 (f3.1 78 (by omega)) (f3.1 79 (by omega)), by rw [f3.1 76 (by omega), f2.1 76 (by omega)]; exact p76.2.1, by rw [f3.1 77 (by omega), f2.1 77 (by omega)]; exact p76.2.2⟩
  have q80 : pz M3 80 82 83 81 16000 [] := pz_F p80 (by rw [f3.1 80 (by omega), f2.1 80 (by omega)]) (by rw [f3.1 82 (by omega), f2.1 82 (by omega)]) (by rw [f3.1 83 (by omega), f2.1 83 (by omega)]) (by rw [f3.1 81 (by omega), f2.1 81 (by omega)])
  have q84 : pz M3 84 86 87 85 16000 (idB ids) := pz_F p84 (by rw [f3.1 84 (by omega), f2.1 84 (by omega)]) (by rw [f3.1 86 (by omega), f2.1 86 (by omega)]) (by rw [f3.1 87 (by omega), f2.1 87 (by omega)]) (by rw [f3.1 85 (by omega), f2.1 85 (by omega)])
  obtain ⟨U, hU⟩ : ∃ U, U = sl (M3 89) 0 (M3 88 1).toNat := ⟨_, rfl⟩
  refine putTables_Y (d := d + 115) (L := L) (ids := ids) (T := dT D) (rf := rf) (t := t) (u := u) (U := U) (B := B) (ia := (dI D).length) (r0 := 0) cx3.2.2.2.1 rop (by omega) hwh (by omega) (by omega) cx3.2.2.1.1 LL cx3.2.2.2.2.1.1 cx3.2.2.2.2.1.2 (by rw [f3.2.1 18 (by decide) (by decide)]; exact g18) L0 (fun i x hx => ?_) q76 db3 q80 q84 hsx.2.2.2.2.2.1.2.1 t3 (fun X hX => ?_) u3 hU (fun M4 f4 b4 tn4 ts4 => ?_)
  · have xL := List.mem_of_getElem? hx
    obtain ⟨b, u, v, eb, hSb, hb3, -⟩ := nd_of hT (hP.2 x xL)
    have q := b3 x xL
    refine ⟨b, u, v, by rw [(cn3.2 i x hx).1]; exact eb, hSb, hb3, ?_, ?_⟩
    · rw [hrf]
      show M3 b 15 = M3 (M 11 x).toNat 15
      rw [eb]
      rfl
    · rw [hrf]
      exact q
  · have := lb _ X rfl hX
    omega
  have z03 := fzF_t z02 (cwF_fz f3)
  have z34 : fzF sh M3 M4 := ⟨fun c hc => f4 c (by omega) (by omega) (by omega) (by omega), fun c hc _ => f4 c (by omega) (by omega) (by omega) (by omega), fun c i hc _ => by rw [f4 c (by omega) (by omega) (by omega) (by omega)]⟩
  have z04 := fzF_t z03 z34
  have w70 : M4 70 = M3 70 := f4 70 (by omega) (by omega) (by omega) (by omega)
  have w74 : M4 74 = M3 74 := f4 74 (by omega) (by omega) (by omega) (by omega)
  have w88 : M4 88 = M3 88 := f4 88 (by omega) (by omega) (by omega) (by omega)
  have eO : rsD M (1 - op % 2) ids L D 101 0 (some rs0) = fzO M op B := by
    unfold fzO
    rw [← hL, ← hids, hD]
  rw [eO] at n3 o3
  -- what the image is, where the rows fit
  have OK : ∀ s : RS, fzO M op B = some s → (M3 70 2 = 0 ∧ M3 74 2 = 0 ∧ M3 88 2 = 0) ∧ (¬ (fzT M op B s).length ≤ 131072 → M4 19 2 = 1) ∧ ((fzT M op B s).length ≤ 131072 → M4 19 2 = 0 ∧ M4 19 1 = (fzX M lg op wh B s).length ∧ sl (M4 20) 0 (fzX M lg op wh B s).length = fzX M lg op wh B s) := fun s hs => by
    obtain ⟨⟨x1, x2⟩, x3, x4, ⟨x5, x6⟩, x7, x8⟩ := o3 s hs
    have pos : ∀ x ∈ L, 0 ≤ rP s x := by
      rw [hL]
      exact rsD_all (z := 1 - op % 2) (ids := idL M) (D := dtE M op B (nuL M)) hT hs
    have erf : ∀ x ∈ L, rf x = fzR op s x := fun x hx => by
      rw [hrf]
      show M3 (M 11 x).toNat 15 = fzR op s x
      rw [x7 x hx]
      have := pos x hx
      unfold rfO
      rw [if_neg (by omega)]
      rfl
    have eE : exL rf L = exL (fzR op s) L := exL_cg L erf
    have e0 : rf 0 = fzR op s 0 := erf 0 (List.mem_of_getElem? L0)
    have eU : U = clG (1 - op % 2) (rQ s) 0 (pcN (rQ s).length) := by
      have h1 : M3 88 1 = (clG (1 - op % 2) (rQ s) 0 (pcN (rQ s).length)).length := x4.2.1
      rw [hU, h1, Int.toNat_natCast]
      exact x4.2.2.1
    -- t itself
    have et : t = apO 131072 (some (dI D)) (clG (1 - op % 2) (rI s) 0 (pcN (rI s).length)) := by
      cases ht : t with
      | none =>
        rw [ht] at t3
        cases ha : apO 131072 (some (dI D)) (clG (1 - op % 2) (rI s) 0 (pcN (rI s).length)) with
        | none => rfl
        | some X =>
          rw [ha] at x3
          have h1 : M3 19 2 = 1 := t3.2
          have h2 : M3 19 2 = 0 := x3.2.2.2
          omega
      | some X =>
        rw [ht] at t3
        cases ha : apO 131072 (some (dI D)) (clG (1 - op % 2) (rI s) 0 (pcN (rI s).length)) with
        | none =>
          rw [ha] at x3
          have h1 : M3 19 2 = 0 := t3.2.2.2
          have h2 : M3 19 2 = 1 := x3.2
          omega
        | some Y =>
          rw [ha] at x3
          have h1 : M3 19 1 = X.length := t3.2.1
          have h2 : M3 19 1 = Y.length := x3.2.1
          have h3 : sl (M3 20) 0 X.length = X := t3.2.2.1
          have h4 : sl (M3 20) 0 Y.length = Y := x3.2.2.1
          have el : X.length = Y.length := by omega
          rw [el, h4] at h3
          rw [h3]
    have eT : ∀ X1 : List Int, X1 = dI D ++ clG (1 - op % 2) (rI s) 0 (pcN (rI s).length) → tX5 (1 - op % 2) (tX4 (1 - op % 2) op (tX3 (1 - op % 2) (X1 ++ U) (dT D)) (exL rf L)) ids = fzT M op B s := fun X1 hX1 => by
      rw [hX1, eU, eE, hL, hids, eDs]
      rfl
    refine ⟨⟨x1, x2, x4.2.2.2⟩, fun hle => ?_, fun hle => ?_⟩
    · by_cases fit : (dI D).length + (clG (1 - op % 2) (rI s) 0 (pcN (rI s).length)).length ≤ 131072
      · rw [apO_fit fit] at et
        refine (ts4 _ et).1 ?_
        rw [eT _ rfl]
        exact hle
      · rw [apO_not fit] at et
        exact tn4 et
    · have fit : (dI D).length + (clG (1 - op % 2) (rI s) 0 (pcN (rI s).length)).length ≤ 131072 := by
        have l1 := tX5_le (1 - op % 2) (tX4 (1 - op % 2) op (tX3 (1 - op % 2) ((dI D ++ clG (1 - op % 2) (rI s) 0 (pcN (rI s).length)) ++ U) (dT D)) (exL rf L)) ids
        have l2 := tX4_le (1 - op % 2) op (tX3 (1 - op % 2) ((dI D ++ clG (1 - op % 2) (rI s) 0 (pcN (rI s).length)) ++ U) (dT D)) (exL rf L)
        have l3 := tX3_le (1 - op % 2) ((dI D ++ clG (1 - op % 2) (rI s) 0 (pcN (rI s).length)) ++ U) (dT D)
        rw [eT _ rfl] at l1
        rw [List.length_append, List.length_append] at l3
        omega
      rw [apO_fit fit] at et
      obtain ⟨y1, y2, y3⟩ := (ts4 _ et).2 (by rw [eT _ rfl]; exact hle)
      have eX : fzX M lg op wh B s = hdZ (hdA B lg op wh L.length (dT D).length ids.length (rf 0)) (tX5 (1 - op % 2) (tX4 (1 - op % 2) op (tX3 (1 - op % 2) ((dI D ++ clG (1 - op % 2) (rI s) 0 (pcN (rI s).length)) ++ U) (dT D)) (exL rf L)) ids).length (ilP (1 - op % 2) (tX4 (1 - op % 2) op (tX3 (1 - op % 2) ((dI D ++ clG (1 - op % 2) (rI s) 0 (pcN (rI s).length)) ++ U) (dT D)) (exL rf L)) ids) (dI D).length (dI D ++ clG (1 - op % 2) (rI s) 0 (pcN (rI s).length)).length (fglP (1 - op % 2) ((dI D ++ clG (1 - op % 2) (rI s) 0 (pcN (rI s).length)) ++ U) (dT D)) (elP (1 - op % 2) op (tX3 (1 - op % 2) ((dI D ++ clG (1 - op % 2) (rI s) 0 (pcN (rI s).length)) ++ U) (dT D)) (exL rf L)) ++ (tX5 (1 - op % 2) (tX4 (1 - op % 2) op (tX3 (1 - op % 2) ((dI D ++ clG (1 - op % 2) (rI s) 0 (pcN (rI s).length)) ++ U) (dT D)) (exL rf L)) ids).drop 96 := by
        rw [eU, eE, e0, hL, hids, eDs]
        rfl
      have lX : (fzX M lg op wh B s).length = (tX5 (1 - op % 2) (tX4 (1 - op % 2) op (tX3 (1 - op % 2) ((dI D ++ clG (1 - op % 2) (rI s) 0 (pcN (rI s).length)) ++ U) (dT D)) (exL rf L)) ids).length := by
        have := congrArg List.length y3
        rw [sl_len, ← eX] at this
        exact this.symm
      rw [lX]
      exact ⟨y1, y2, by rw [eX]; exact y3⟩
  have fl19 : M4 19 2 = 0 ∨ M4 19 2 = 1 := by
    cases ht : t with
    | none => exact Or.inr (tn4 ht)
    | some X1 =>
      by_cases c : (tX5 (1 - op % 2) (tX4 (1 - op % 2) op (tX3 (1 - op % 2) (X1 ++ U) (dT D)) (exL rf L)) ids).length ≤ 131072
      · exact Or.inl ((ts4 X1 ht).2 c).1
      · exact Or.inr ((ts4 X1 ht).1 c)
  have cn4 : cnN M M4 L := ⟨by rw [f4 18 (by omega) (by omega) (by omega) (by omega)]; exact cn3.1, fun i x hx => by
    have q := N x (List.mem_of_getElem? hx)
    rw [f4 21 (by omega) (by omega) (by omega) (by omega), f4 _ (by omega) (by omega) (by omega) (by omega)]
    exact cn3.2 i x hx⟩
  refine ranOver_Y (d := d + 122) fl19 (by rw [w70]; exact fl3.1) (by rw [w74]; exact fl3.2) (by rw [w88]; exact rzO_fl u3) (fun zz hzz => ?_)
  rcases hzz with ⟨y1, y2⟩ | ⟨y1, y2, y3, y4, y5⟩
  · rw [y1]
    refine ⟨by omega, fun w => by omega, fun _ => ?_⟩
    refine kf M4 B rlg rop eB hB z04 (fun s hs hle => ?_)
    obtain ⟨⟨x1, x2, x3⟩, -, x4⟩ := OK s hs
    have := (x4 hle).1
    rw [w70, w74, w88] at y2
    omega
  · rw [y1]
    refine ⟨by omega, fun _ => ?_, fun w => by omega⟩
    rw [w70] at y3
    rw [w74] at y4
    cases hs : fzO M op B with
    | none =>
      have := n3 hs
      omega
    | some s =>
      obtain ⟨-, x4, x5⟩ := OK s hs
      have hle : (fzT M op B s).length ≤ 131072 := by
        by_cases c : (fzT M op B s).length ≤ 131072
        · exact c
        · have := x4 c
          omega
      obtain ⟨v1, v2, v3⟩ := x5 hle
      refine clear_O (d := d + 122) (a := 98) (b := 99) (n := 131072) (rowS_98 sh) (fun M5 f5 w5 => ?_)
      have e19 : M5 19 1 = (fzX M lg op wh B s).length := by rw [f5 19 (by omega)]; exact v2
      have e20 : M5 20 = M4 20 := f5 20 (by omega)
      refine putAll_O (d := d + 122) (c := 20) (nc := 131072) (rowS_98 sh) rfl (by omega) (by omega) (by omega) (by omega) (by omega) (by omega) w5 (fun M6 f6 w6 => ?_)
      have lX : (fzX M lg op wh B s).length ≤ 131072 := by omega
      rw [e20, e19, Int.toNat_natCast, v3, apO_fit (by show 0 + _ ≤ 131072; omega), List.nil_append] at w6
      have o6 : ∀ c : Nat, c ≠ 98 → c ≠ 99 → M6 c = M4 c := fun c c1 c2 => by rw [f6 c c1 c2, f5 c c1]
      have cn6 : cnN M M6 (nuL M) := by
        rw [← hL]
        refine ⟨by rw [o6 18 (by omega) (by omega)]; exact cn4.1, fun i x hx => ?_⟩
        have q := N x (List.mem_of_getElem? hx)
        rw [o6 21 (by omega) (by omega), o6 _ (by omega) (by omega)]
        exact cn4.2 i x hx
      exact kg M4 M6 B s rlg rop eB hB z04 o6 hs hle cn6 w6
end CFREEZE
