/-! QUERIES: find; the reference, and the call -/
theorem pa_r1 {f : Int → Int} {s j : Int} (hO : ftO f s) (h1 : 1 ≤ j) (h2 : j ≤ le f 4 4) (hk : kdQ f j = 1) (hj : j ≠ rof f) : 1 ≤ paF (lf (rwR (qI f))) (plf f) j ∧ paF (lf (rwR (qI f))) (plf f) j ≤ le f 4 4 := by
  have pr := pa_r hO h1 h2 hk hj
  obtain ⟨hsu, hpl, hrw, h4, h5, h6, h7, h8⟩ := hO
  obtain ⟨q1, q2, -⟩ := (h7.2 j h1 h2).2.2.1 hk hj
  have hm := (hmA (lg := lf (rwR (qL f))) (kd := kdQ f) (Ef := Efq f) (le f 4 4).toNat j).2.2.1 (by
    have e : tiQ f j = tiA (lf (rwR (qL f))) (kdQ f) (Efq f) (le f 4 4).toNat j := rfl
    omega)
  have h0 := hm.1.1
  have e : hoQ f j = hoA (lf (rwR (qL f))) (kdQ f) (Efq f) (le f 4 4).toNat j := by
    unfold hoQ
    exact ur_ne (by omega)
  omega
section MFIND
variable {d nx zl : Nat} {K : Option TV → FH → Prop} {sh : Nat → Option Shp} {M : FM} {IR IS LR LS : List Int} {B ids F n r : Int} {pl h : Int → Int}
theorem goOn_Y {x fr to : Int} {P : Int → Int} (hL : mlC M IR IS LR LS B ids F n pl h) (e19 : M 168 119 = r) (hr : 1 ≤ r ∧ r ≤ n) (hx : 1 ≤ x ∧ x ≤ n) (hk : kdT (le (lf IR) (pl x) 2) = 1) (hA : liX IR IS LR LS h (pl x)) (hP : M 169 = P) (hf : 0 ≤ fr ∧ fr < to ∧ to ≤ 16384)
    (k : ∀ M2 : FM, moF M M2 → K (some (ti (stp P (lf LR) (paF (lf IR) pl) (lsF IR IS LR LS h pl) r x fr to))) (sh, M2, nx, zl)) : fm_Y (d + 6) 390 [.ref 168, .int (Int32.ofInt x), .int (Int32.ofInt fr), .int (Int32.ofInt to)] (sh, M, nx, zl) K := by
  have lr := hL.2.2.2.2.2.1.2
  have hs := hL.2.2.2.2.2.2.1
  have ag := hL.2.2.2.2.2.1.1
  have hst : stp P (lf LR) (paF (lf IR) pl) (lsF IR IS LR LS h pl) r x fr to = if (to = fr + 2 ∧ P fr % 256 = 46) ∧ P (fr + 1) % 256 = 46 then (if x = r then r else paF (lf IR) pl x) else chS (lf LR) (sl P fr (to - fr).toNat) (lsF IR IS LR LS h pl x) := rfl
  refine m390 [fx 168, ti x, ti fr, ti to] ?_
  have B37 : ¬ ((to = fr + 2 ∧ P fr % 256 = 46) ∧ P (fr + 1) % 256 = 46) → b390_37 (d + 5) (fW (d + 5) kd390 K) K [some (fx 168), some (ti x), some (ti fr), some (ti to), none] [] (sh, M, nx, zl) := by
    intro np
    rw [if_neg np] at hst
    rw [hst] at k
    obtain ⟨E, b, e, li⟩ := hA
    have eE : lsF IR IS LR LS h pl x = E := lsE_eq hs li
    rw [eE] at k
    have er := opP_r hs li.1
    refine openListing_Y hL hx hk (fun M2 F2 no => absurd li.1 (no b e)) (fun M2 b2 e2 F2 op v => ?_)
    obtain ⟨x1, x2⟩ := opP_one hs li.1 op
    rw [x1, x2] at v
    obtain ⟨v11, v12, v16, v17⟩ := v
    have L : ∀ (E2 : List (Int × Int)) (a l hd : Int) (M1 : FM), moF M M1 → (M1 168 112 = e ∧ M1 168 116 = a ∧ M1 168 117 = l) → (l ≠ 0 → M1 168 118 = hd ∧ 0 ≤ hd ∧ hd + 12 ≤ e) → 0 ≤ a → (0 ≤ l ∧ l ≤ 256) → wkL IS (lf LR) e a l hd E2 → chS (lf LR) (sl P fr (to - fr).toNat) E = chS (lf LR) (sl P fr (to - fr).toNat) E2 → fm_X (d + 5) kd390 44 [some (fx 168), some (ti x), some (ti fr), some (ti to), some (ti 1)] [] (sh, M1, nx, zl) K := by
      intro E2
      induction E2 with
      | nil =>
        intro a l hd M1 F1 hm h18 ha hl hE hc
        have ee := hE.1
        have e2 : chS (lf LR) (sl P fr (to - fr).toNat) [] = -2 := rfl
        rw [hc, e2] at k
        refine s390_44 (d + 5) K _ _ _ ?_
        refine ⟨by omega, fun q => by omega, fun _ => ?_⟩
        refine nextEnd_Y (a := a) (by omega) (by omega) (by omega) ?_
        exact ⟨by omega, fun _ => k M1 F1, fun q => absurd rfl q⟩
      | cons q E2 ih =>
        intro a l hd M1 F1 hm h18 ha hl hE hc
        obtain ⟨hd2, a2⟩ := q
        obtain ⟨l2, n1, n2, n3⟩ := hE
        dsimp only at n1 n2 n3
        have l6 := le_nn (lf LR) 2 (a2 + 6)
        have z3 := le_nn (lf LR) 4 a
        have E1 := n2.1
        have E3 := n2.2
        have hda : (0 ≤ hd2 ∧ hd2 + 12 ≤ e) ∧ a ≤ a2 ∧ (1 ≤ l2 ∧ l2 ≤ 256) := by
          rcases n1 with z | z
          · have := h18 z.1
            omega
          · have z1 := z.2.1.1
            have z2 := z.2.1.2.1
            omega
        refine s390_44 (d + 5) K _ _ _ ?_
        refine ⟨by omega, fun q => by omega, fun _ => ?_⟩
        refine nextEntry_Y (mlC_to hL F1) hm.1 hm.2.1 hm.2.2 h18 ha (by omega) hl n1 n2 (fun M3 F3 t1 t2 t3 => ?_)
        have F13 := mo_trans F1 F3
        obtain ⟨t13, t14, t15⟩ := t2
        refine ⟨by omega, fun q => by omega, fun _ => ?_⟩
        refine morder_I (rr242 sh).1.2.1 (b := 169) (nb := 16384) rfl (by omega) (by omega) (by omega) (by omega) (by omega) (by omega) (by omega) (by omega) ?_
        have s1 : sl (M3 245) (M3 168 114) (M3 168 115).toNat = nmS (lf LR) a2 := by
          rw [t14, t15, F13.1 245 (by omega)]
          exact sl_agr ag (by omega) (by omega)
        have s5 : M3 169 = P := (F13.1 169 (by omega)).trans hP
        have orr := ordL_sl (M3 245) (M3 169) (M3 168 114) fr (M3 168 115).toNat (to - fr).toNat
        have oe := ordL_eq (sl (M3 245) (M3 168 114) (M3 168 115).toNat) (sl (M3 169) fr (to - fr).toNat)
        rw [s1, s5] at oe
        rw [s1, s5] at orr ⊢
        have cc : chS (lf LR) (sl P fr (to - fr).toNat) ((hd2, a2) :: E2) = if nmS (lf LR) a2 = sl P fr (to - fr).toNat then chd (lf LR) hd2 a2 else chS (lf LR) (sl P fr (to - fr).toNat) E2 := rfl
        rw [cc] at hc
        refine ⟨by omega, fun w2 => ?_, fun w2 => ?_⟩
        · rw [if_neg (fun z => w2 (oe.2 z))] at hc
          exact ih (a2 + 9 + le (lf LR) (a2 + 6) 2) (l2 - 1) hd2 M3 F13 ⟨t1.2, t3.1, t3.2.1⟩ (fun _ => ⟨t3.2.2, hda.1⟩) (by omega) (by omega) n3 hc
        · rw [if_pos (oe.1 w2)] at hc
          rw [hc, ← t13] at k
          exact k M3 F13
    exact L E b 0 0 M2 F2 ⟨v12, v16, v17⟩ (fun q => absurd rfl q) (by omega) (by omega) li.2.1.1 rfl
  refine ⟨by omega, ?_⟩
  rw [hP]
  refine ⟨by omega, fun w => B37 (by omega), fun w => ?_⟩
  refine ⟨by omega, fun w1 => B37 (by omega), fun w1 => ?_⟩
  refine ⟨by omega, ?_⟩
  rw [hP]
  refine ⟨by omega, fun w2 => B37 (by omega), fun w2 => ?_⟩
  rw [if_pos (by omega)] at hst
  rw [hst] at k
  exact parentNumber_Y hL e19 (by omega) hx hk (k M (mo_refl M))
theorem mfind_Y {M0 : FM} {j m : Int} {P : Int → Int} (hi : -2147483648 ≤ j ∧ j ≤ 2147483647) (hV : VV KC WW M0) (e91 : M 168 91 = M0 168 91) (e92 : M 168 92 = M0 168 92) (hm : M 168 1 = m) (hm2 : 0 ≤ m ∧ m ≤ 16384) (hP : M 169 = P)
    (h8 : inq M0 j → mlC M IR IS LR LS B ids F n pl h ∧ j ≤ n ∧ M 168 119 = r ∧ (1 ≤ r ∧ r ≤ n) ∧ lsA IR IS LR LS h pl n ∧ (∀ x : Int, 1 ≤ x → x ≤ n → kdF IR pl x = 1 → x ≠ r → 1 ≤ paF (lf IR) pl x ∧ paF (lf IR) pl x ≤ n))
    (k0 : ¬ inq M0 j → K (some (ti (-1))) (sh, utM M, nx, zl))
    (k1 : inq M0 j → ∀ M2 : FM, moF (utM M) M2 → K (some (ti (if kdF IR pl j = 1 then flS P (lf LR) (paF (lf IR) pl) (kdF IR pl) (lsF IR IS LR LS h pl) r m (m + 2).toNat j 0 0 else -4))) (sh, M2, nx, zl)) : fm_Y (d + 7) 388 [.ref 168, .int (Int32.ofInt j)] (sh, M, nx, zl) K := by
  refine m388 [fx 168, ti j] ?_
  refine muse_Y ?_
  have u : ∀ i : Int, i ≠ 1 → i ≠ 2 → utM M 168 i = M 168 i := by
    intro i i1 i2
    unfold utM
    rw [um_at, ur_ne i2, ur_ne i1]
  have uo : ∀ c : Nat, c ≠ 168 → utM M c = M c := by
    intro c hc
    unfold utM
    rw [um_ne hc]
  obtain ⟨N, gN⟩ : ∃ N : FM, N = utM M := ⟨_, rfl⟩
  rw [← gN] at k0 k1 u uo ⊢
  refine isInode_Y hi hV (by rw [u 91 (by omega) (by omega)]; exact e91) (by rw [u 92 (by omega) (by omega)]; exact e92) (fun z hz => ?_)
  rcases hz.symm with ⟨z1, z2⟩ | ⟨z1, z2⟩
  · rw [z1]
    exact ⟨by omega, fun q => absurd rfl q, fun _ => k0 z2⟩
  rw [z1]
  obtain ⟨hL0, jn, e19', hr, hA, hpa⟩ := h8 z2
  have j1 := z2.2.1
  have k := k1 z2
  have hL := mlC_x hL0 (M2 := N) (fun c hc => uo c (by omega)) (fun i hi => u i (by omega) (by omega))
  have e19 : N 168 119 = r := (u 119 (by omega) (by omega)).trans e19'
  have n169 : N 169 = P := (uo 169 (by omega)).trans hP
  have nr := hL.1.2.1
  have hs := hL.2.2.2.2.2.2.1
  have ek : ∀ x : Int, kdF IR pl x = kdT (le (lf IR) (pl x) 2) := fun x => rfl
  have chr : ∀ x : Int, 1 ≤ x → x ≤ n → kdF IR pl x = 1 → ∀ q : Int × Int, q ∈ lsF IR IS LR LS h pl x → 1 ≤ chd (lf LR) q.1 q.2 ∧ chd (lf LR) q.1 q.2 ≤ n := by
    intro x x0 x1 xk q hq
    obtain ⟨E, b, e, li⟩ := hA x x0 x1 xk
    have eE : lsF IR IS LR LS h pl x = E := lsE_eq hs li
    rw [eE] at hq
    obtain ⟨y, -, y2, -⟩ := li.2.1.2 q hq
    have := (hL.2.1.2 y y2.1).2.1
    omega
  have stR : ∀ x fr i : Int, 1 ≤ x → x ≤ n → kdF IR pl x = 1 → stp P (lf LR) (paF (lf IR) pl) (lsF IR IS LR LS h pl) r x fr i = -2 ∨ (1 ≤ stp P (lf LR) (paF (lf IR) pl) (lsF IR IS LR LS h pl) r x fr i ∧ stp P (lf LR) (paF (lf IR) pl) (lsF IR IS LR LS h pl) r x fr i ≤ n) := by
    intro x fr i x0 x1 xk
    unfold stp
    split
    · split
      · omega
      · rename_i c
        exact Or.inr (hpa x x0 x1 xk c)
    · exact chS_r _ (chr x x0 x1 xk)
  refine ⟨by omega, fun _ => ?_, fun q => by omega⟩
  refine isDirectory_Y hL ⟨j1, jn⟩ (fun y hy => ?_)
  rcases hy.symm with ⟨y1, y2⟩ | ⟨y1, y2⟩
  · rw [y1]
    rw [if_neg (show kdF IR pl j ≠ 1 from y2)] at k
    refine s388_27 (d + 6) K _ _ _ ?_
    refine ⟨by omega, fun _ => ?_, fun q => absurd rfl q⟩
    exact ⟨by omega, fun _ => k N (mo_refl N), fun q => absurd rfl q⟩
  rw [y1]
  rw [if_pos (show kdF IR pl j = 1 from y2)] at k
  obtain ⟨V, gV⟩ : ∃ V : Int, V = flS P (lf LR) (paF (lf IR) pl) (kdF IR pl) (lsF IR IS LR LS h pl) r m (m + 2).toNat j 0 0 := ⟨_, rfl⟩
  rw [← gV] at k
  rw [hm]
  have L42 : ∀ (g : Nat) (x fr i : Int) (M1 : FM), (g : Int) = m + 2 - i → (0 ≤ fr ∧ fr ≤ i ∧ i ≤ m ∧ fr < m) → (1 ≤ x ∧ x ≤ n) → moF N M1 → V = flS P (lf LR) (paF (lf IR) pl) (kdF IR pl) (lsF IR IS LR LS h pl) r m g x fr i → fm_X (d + 6) kd388 42 [some (fx 168), some (ti j), some (ti m), some (ti x), some (ti fr), some (ti 1), some (ti i)] [] (sh, M1, nx, zl) K := by
    intro g
    induction g with
    | zero => intro x fr i M1 q1 q2; omega
    | succ g ih =>
      intro x fr i M1 q1 q2 q3 F1 hV'
      have e : flS P (lf LR) (paF (lf IR) pl) (kdF IR pl) (lsF IR IS LR LS h pl) r m (g + 1) x fr i = if m < i then x else if i < m ∧ P i % 256 ≠ 47 then flS P (lf LR) (paF (lf IR) pl) (kdF IR pl) (lsF IR IS LR LS h pl) r m g x fr (i + 1) else if fr < i then (if kdF IR pl x = 1 then (if stp P (lf LR) (paF (lf IR) pl) (lsF IR IS LR LS h pl) r x fr i < 0 then -2 else flS P (lf LR) (paF (lf IR) pl) (kdF IR pl) (lsF IR IS LR LS h pl) r m g (stp P (lf LR) (paF (lf IR) pl) (lsF IR IS LR LS h pl) r x fr i) (i + 1) (i + 1)) else -4) else flS P (lf LR) (paF (lf IR) pl) (kdF IR pl) (lsF IR IS LR LS h pl) r m g x (i + 1) (i + 1) := rfl
      rw [e, if_neg (by omega)] at hV'
      have hL1 := mlC_to hL F1
      have m169 : M1 169 = P := (F1.1 169 (by omega)).trans n169
      have m19 : M1 168 119 = r := (F1.2 119 (by omega)).trans e19
      -- to the next part of the path
      have GO : ∀ (M3 : FM) (y : Int), moF N M3 → (1 ≤ y ∧ y ≤ n) → V = flS P (lf LR) (paF (lf IR) pl) (kdF IR pl) (lsF IR IS LR LS h pl) r m g y (i + 1) (i + 1) → fm_X (d + 6) kd388 27 [some (fx 168), some (ti j), some (ti m), some (ti y), some (ti (i + 1)), some (ti 1), some (ti i)] [] (sh, M3, nx, zl) K := by
        intro M3 y F3 ry hy'
        refine s388_27 (d + 6) K _ _ _ ?_
        refine ⟨by omega, fun q => by omega, fun _ => ?_⟩
        refine ⟨by omega, fun w => ?_, fun w => ?_⟩
        · rw [fl_end g y (i + 1) (by omega)] at hy'
          refine ⟨by omega, fun q => by omega, fun _ => ?_⟩
          have T := k M3 F3
          rw [hy'] at T
          exact T
        · exact ih y (i + 1) (i + 1) M3 (by omega) (by omega) ry F3 hy'
      have B66 : ¬ (i < m ∧ P i % 256 ≠ 47) → b388_66 (d + 6) (fW (d + 6) kd388 K) K [some (fx 168), some (ti j), some (ti m), some (ti x), some (ti fr), some (ti 1), some (ti i)] [] (sh, M1, nx, zl) := by
        intro ns
        rw [if_neg ns] at hV'
        refine ⟨by omega, fun w2 => ?_, fun w2 => ?_⟩
        · rw [if_neg (by omega)] at hV'
          refine ⟨by omega, fun _ => ?_, fun q => by omega⟩
          exact GO M1 x F1 q3 hV'
        rw [if_pos (by omega)] at hV'
        refine isDirectory_Y hL1 q3 (fun v hv => ?_)
        rcases hv.symm with ⟨v1, v2⟩ | ⟨v1, v2⟩
        · rw [v1]
          rw [if_neg (show kdF IR pl x ≠ 1 from v2)] at hV'
          refine ⟨by omega, fun q => absurd rfl q, fun _ => ?_⟩
          have T := k M1 F1
          rw [hV'] at T
          exact T
        rw [v1]
        have v2' : kdF IR pl x = 1 := v2
        rw [if_pos v2'] at hV'
        refine ⟨by omega, fun _ => ?_, fun q => by omega⟩
        refine goOn_Y hL1 m19 hr q3 v2 (hA x q3.1 q3.2 v2') m169 (by omega) (fun M3 F3 => ?_)
        have F13 := mo_trans F1 F3
        have sr := stR x fr i q3.1 q3.2 v2'
        refine ⟨by omega, fun w4 => ?_, fun w4 => ?_⟩
        · rw [if_neg (by omega)] at hV'
          exact GO M3 _ F13 (by omega) hV'
        · rw [if_pos (by omega)] at hV'
          have T := k M3 F13
          rw [hV'] at T
          exact T
      refine s388_42 (d + 6) K _ _ _ ?_
      refine ⟨by omega, fun w1 => B66 (by omega), fun w1 => ?_⟩
      refine ⟨by omega, ?_⟩
      rw [m169]
      refine ⟨by omega, fun w2 => B66 (by omega), fun w2 => ?_⟩
      rw [if_pos (by omega)] at hV'
      exact ih x fr (i + 1) M1 (by omega) (by omega) q3 F1 hV'
  refine s388_27 (d + 6) K _ _ _ ?_
  refine ⟨by omega, fun q => by omega, fun _ => ?_⟩
  refine ⟨by omega, fun w => ?_, fun w => ?_⟩
  · rw [fl_end _ j 0 (by omega)] at gV
    refine ⟨by omega, fun q => by omega, fun _ => ?_⟩
    have T := k N (mo_refl N)
    rw [gV] at T
    exact T
  · exact L42 (m + 2).toNat j 0 0 N (by omega) (by omega) ⟨j1, jn⟩ (mo_refl N) gV
end MFIND
/-- all is as it was but out, no call more -/
theorem RR_q0 {L k nx zl : Nat} {xs : Nat → Int32} {sh : Nat → Option Shp} {M M2 : FM} (hR : RR (VV KC WW) L xs k (sh, M, nx, zl)) (h1 : ∀ c : Nat, (c = 0 ∨ c = 4 ∨ c = 5 ∨ 8 ≤ c ∧ c ≤ 14 ∨ c = 17 ∨ c = 169 ∨ 171 ≤ c ∧ c ≤ 187 ∨ 265 ≤ c) → M2 c = M c) (h2 : ∀ i : Int, i ≤ 26 → i ≠ 4 → M2 168 i = M 168 i) (h3 : M2 3 = M 3) (hv : wF M M2) (ho : outR M2) : RR (VV KC WW) L xs k (sh, M2, nx, zl) := by
  obtain ⟨⟨⟨a1, a2⟩, a3, a6⟩, ht, -, hT, hV⟩ := hR
  refine ⟨⟨⟨a1, ?_⟩, a3, a6⟩, ?_, ho, ?_, VV_w hV hv (congrFun h3 6) (congrFun h3 7)⟩
  · show ∀ j : Nat, Int32.ofInt (M2 0 j) = xs j
    rw [h1 0 (by omega)]
    exact a2
  · show tapeR M2
    unfold tapeR
    rw [h2 1 (by omega) (by omega), h2 2 (by omega) (by omega), h1 169 (by omega), h3, h1 4 (by omega), h1 5 (by omega)]
    exact ht
  · exact treeR_same hT (fun c hc => h1 c (by omega)) (fun i i0 hi => h2 i hi (by omega))
section CFIND
variable {L d : Nat} {xs : Nat → Int32}
theorem call_find {j : Int} (hj : -2147483648 ≤ j ∧ j ≤ 2147483647) : ca_I (VV KC WW) L xs (d + 8) 224 388 [.int (Int32.ofInt j)] := by
  intro k H hR
  obtain ⟨sh, M, nx, zl⟩ := H
  have hV : VV KC WW M := hR.2.2.2.2
  have hO : outR M := hR.2.2.1
  obtain ⟨⟨t1, t2⟩, t3, t4, t5, t6⟩ : tapeR M := hR.2.1
  obtain ⟨f, gf⟩ : ∃ f : Int → Int, f = M 211 := ⟨_, rfl⟩
  obtain ⟨s, gs⟩ : ∃ s : Int, s = M 168 59 := ⟨_, rfl⟩
  have W : inq M j → ftO f s ∧ mtC M f s ∧ mtM M f s ∧ (1 ≤ j ∧ j ≤ le f 4 4) := inq_W hV gf gs
  have END : RR (VV KC WW) L xs (k + 1) (sh, utM (utC M), nx, zl) := RR_used (VV_keeps KC_keeps WW_keeps) hR
  have hP : agr (M 5) (M 169) (M 168 1) := by
    intro i i0 i1
    have := sl_inj _ _ _ t4 i.toNat (by omega)
    rw [show (0 : Int) + ((i.toNat : Nat) : Int) = i by omega] at this
    exact this
  refine m224 [fx 3, ti j] ?_
  refine has_Y hj hV (fun z hz => ?_)
  rcases hz.symm with ⟨z1, z2⟩ | ⟨z1, z2⟩
  · rw [z1]
    refine ⟨by omega, fun _ => ?_, fun q => absurd rfl q⟩
    refine useTape_Y ?_
    refine ⟨-1, rfl, ⟨rfl, rfl⟩, ?_⟩
    have c168 : utC M 168 = M 168 := rfl
    exact mfind_Y (d := d + 1) (IR := rwR (qI f)) (IS := rwS (qI f)) (LR := rwR (qL f)) (LS := rwS (qL f)) (B := le f 12 4) (ids := le f 26 2) (F := le f 16 4) (n := le f 4 4) (pl := plf f) (h := hf f) (r := rof f) (m := M 168 1) (P := M 169) hj hV (by rw [c168]) (by rw [c168]) (by rw [c168]) ⟨t1, t2⟩ rfl (fun q => absurd q z2) (fun _ => ⟨rfl, END⟩) (fun q => absurd q z2)
  rw [z1]
  obtain ⟨w1, w2, w3, jr⟩ := W z2
  have s1 := w3.1.2.2.1.2
  have rr := ro_r s1.2.2 w1
  have hA : lsA (rwR (qI f)) (rwS (qI f)) (rwR (qL f)) (rwS (qL f)) (hf f) (plf f) (le f 4 4) := w1.2.2.2.2.2.1
  have hpa : ∀ x : Int, 1 ≤ x → x ≤ le f 4 4 → kdF (rwR (qI f)) (plf f) x = 1 → x ≠ rof f → 1 ≤ paF (lf (rwR (qI f))) (plf f) x ∧ paF (lf (rwR (qI f))) (plf f) x ≤ le f 4 4 := fun x x0 x1 xk xr => pa_r1 w1 x0 x1 xk xr
  refine ⟨by omega, fun q => by omega, fun _ => ?_⟩
  refine follow_Y (m := M 168 1) (P := M 169) w2.1.1 w2.2.2.1 rr jr hA t3 ⟨t1, t2⟩ hP hpa (fun M1 F1 => ?_)
  refine useTape_Y ?_
  refine ⟨_, rfl, ⟨rfl, ?_⟩, ?_⟩
  · show M1 0 = M 0
    exact F1 0 (by omega)
  have U : ∀ c : Nat, c ≠ 100 → utC M1 c = utC M c := by
    intro c hc
    unfold utC
    by_cases c3 : c = 3
    · rw [c3, um_at, um_at, F1 3 (by omega)]
    · rw [um_ne c3, um_ne c3]
      by_cases c4 : c = 4
      · rw [c4, um_at, um_at, F1 4 (by omega)]
      · rw [um_ne c4, um_ne c4]
        exact F1 c hc
  have c168 : utC M1 168 = M 168 := U 168 (by omega)
  have co : ∀ c : Nat, c ≠ 100 → c ≠ 3 → c ≠ 4 → utC M1 c = M c := by
    intro c h1 h2 h3
    rw [U c h1]
    unfold utC
    rw [um_ne h2, um_ne h3]
  have hL1 := mlC_x w3.1.1 (M2 := utC M1) (fun c hc => co c (by omega) (by omega) (by omega)) (fun i _ => by rw [c168])
  refine mfind_Y (d := d + 1) (m := M 168 1) (P := M 169) (r := rof f) hj hV (by rw [c168]) (by rw [c168]) (by rw [c168]) ⟨t1, t2⟩ (co 169 (by omega) (by omega) (by omega)) (fun q => ⟨hL1, jr.2, by rw [c168]; exact w3.2.2.1, rr, hA, hpa⟩) (fun no => absurd z2 no) (fun _ M2 F2 => ⟨rfl, ?_⟩)
  have V : ∀ c : Nat, c ≠ 100 → utM (utC M1) c = utM (utC M) c := by
    intro c hc
    unfold utM
    by_cases e : c = 168
    · rw [e, um_at, um_at, U 168 (by omega)]
    · rw [um_ne e, um_ne e]
      exact U c hc
  have v168 := V 168 (by omega)
  have FF : ∀ c : Nat, c ≠ 100 → c ≠ 168 → M2 c = utM (utC M) c := fun c h1 h2 => (F2.1 c h2).trans (V c h1)
  have GG : ∀ i : Int, (i < 111 ∨ 118 < i) → M2 168 i = utM (utC M) 168 i := fun i hi => (F2.2 i hi).trans (by rw [v168])
  refine RR_q0 END (fun c hc => FF c (by omega) (by omega)) (fun i hi _ => GG i (by omega)) (FF 3 (by omega) (by omega)) ⟨fun c hc => FF c (by omega) (by omega), fun i hi => GG i (by omega)⟩ ?_
  exact outR_to hO ((FF 6 (by omega) (by omega)).trans rfl) ((FF 7 (by omega) (by omega)).trans rfl) ((FF 170 (by omega) (by omega)).trans rfl) ((GG 4 (by omega)).trans rfl)
end CFIND
