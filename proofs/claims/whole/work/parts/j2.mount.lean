/-! CALLS of both: mount -/
/-- the packer's fixed codes; the reference's rows of pieces begin at 0 -/
def KX (M : FM) : Prop := cdT M 54 55 fxA 288 ∧ cdT M 61 62 fxB 32 ∧ M 228 0 = 0 ∧ M 232 0 = 0
def KC (M : FM) : Prop := uFx M ∧ (∀ i : Int, 0 ≤ i → i < 15 → M 2 i = fxT i) ∧ M 114 0 = 0 ∧ KX M
theorem KC_to {M M2 : FM} (h : KC M) (e : ∀ c : Nat, (c = 1 ∨ c = 2 ∨ 151 ≤ c ∧ c ≤ 164 ∨ 50 ≤ c ∧ c ≤ 63 ∨ c = 219 ∨ c = 220 ∨ c = 228 ∨ c = 232) → M2 c = M c) (e0 : M2 114 0 = M 114 0) : KC M2 := by
  obtain ⟨h1, h2, h3, h4, h5, h7⟩ := h
  refine ⟨uFx_to h1 (fun c hc => e c (by omega)), fun i i0 i1 => ?_, by rw [e0]; exact h3, ?_, ?_, ?_⟩
  · rw [e 2 (by omega)]
    exact h2 i i0 i1
  · unfold cdT
    rw [e 54 (by omega), e 55 (by omega)]
    exact h4
  · unfold cdT
    rw [e 61 (by omega), e 62 (by omega)]
    exact h5
  · rw [e 228 (by omega), e 232 (by omega)]
    exact h7
theorem KC_keeps : keepsC KC := fun M M2 h e => KC_to h (fun c hc => e c (by omega)) (by rw [e 114 (by omega)])
theorem mtC_to {M M2 : FM} {f : Int → Int} {s : Int} (h : mtC M f s) (e : ∀ c : Nat, (97 ≤ c ∧ c ≤ 167 ∨ c = 1 ∨ c = 2) → M2 c = M c) : mtC M2 f s := by
  obtain ⟨⟨a1, a2, a3, a4, a5⟩, b1, b2, b3, b4⟩ := h
  unfold mtC
  rw [e 127 (by omega), e 128 (by omega), e 97 (by omega), e 115 (by omega), e 167 (by omega)]
  refine ⟨⟨ltC_to a1 (fun c hc => e c (by omega)), ?_, ?_, ?_, uFx_to a5 (fun c hc => e c (by omega))⟩, b1, b2, b3, b4⟩
  · rw [e 97 (by omega)]
    exact a2
  · rw [e 98 (by omega), e 99 (by omega)]
    exact a3
  · rw [e 119 (by omega), e 120 (by omega)]
    exact a4
theorem mtM_to {M M2 : FM} {f : Int → Int} {s : Int} (h : mtM M f s) (e : ∀ c : Nat, 188 ≤ c ∧ c ≤ 264 → M2 c = M c) (e2 : ∀ i : Int, 92 ≤ i → M2 168 i = M 168 i) : mtM M2 f s := by
  obtain ⟨⟨a1, a2, a3, a4⟩, b1, b2, b3⟩ := h
  obtain ⟨⟨⟨l1, l2, l3, l4⟩, l5, l6, l7⟩, lb, lc, lf2⟩ := a1
  unfold mtM s8M mlC ndM
  rw [e 257 (by omega), e 263 (by omega), e2 119 (by omega), e2 98 (by omega), e 211 (by omega), e 249 (by omega), e 238 (by omega), e 239 (by omega), e 241 (by omega), e 242 (by omega), e 243 (by omega), e 244 (by omega), e 245 (by omega), e 259 (by omega), e 260 (by omega), e2 92 (by omega), e2 93 (by omega), e2 94 (by omega), e2 95 (by omega)]
  exact ⟨⟨⟨⟨⟨l1, l2, l3, l4⟩, l5, l6, l7⟩, lb, lc, lf2⟩, a2, a3, a4⟩, b1, b2, b3⟩
def WW (M : FM) : Prop := ftO (M 211) (M 168 59) ∧ mtC M (M 211) (M 168 59) ∧ mtM M (M 211) (M 168 59)
theorem WW_keeps : keepsV WW := by
  intro M M2 ⟨h1, h2, h3⟩ ⟨s1, s2, s3, s4⟩
  unfold WW
  rw [s1 211 (by omega), s2 59 (by omega)]
  exact ⟨h1, mtC_to h2 (fun c hc => s1 c (by omega)), mtM_to h3 (fun c hc => s1 c (by omega)) (fun i hi => s2 i (by omega))⟩
theorem mtC_cg {M : FM} {f g : Int → Int} {s : Int} (h : agr f g s) (hO : ftO f s) (hm : mtC M f s) : mtC M g s := by
  obtain ⟨hsu, hpl, hrw, h4, h5, h6, h7, h8⟩ := hO
  obtain ⟨⟨e1, e2, e3, e4, e5⟩, ⟨b1, b2, b3, b4⟩, ⟨c2, d1, p2⟩, ⟨ep, eh, er⟩, ek, eE, et, eho, efo, eea⟩ := der_cg h hsu hpl
  obtain ⟨-, sn, sF, -, sA⟩ := su_B hsu
  obtain ⟨⟨a1, a2, ⟨a3, a6, a7⟩, a4, a5⟩, m1, m2, m3, m4⟩ := hm
  unfold mtC
  rw [← e1, ← e2, ← e3, ← e5, ← b1, ← b2, ← b3, ← b4, ← c2, ← ep, ← eh, ← er, ← eea]
  refine ⟨⟨a1, a2, ⟨a3, fun i i0 i1 => (a6 i i0 i1).trans (h i i0 i1), a7⟩, a4, a5⟩, m1, m2, m3, fun i i0 i1 => ?_⟩
  rw [← fsF_cg h sA.2 h4 i0 i1]
  exact m4 i i0 i1
theorem cif_or {α : Type} (P : Prop) (a b : α) : cif P a b = a ∨ cif P a b = b := by
  by_cases p : P
  · exact Or.inl (cif_pos p)
  · exact Or.inr (cif_neg p)
theorem cif_rng {P : Prop} {a b : Int} (h : 0 ≤ a ∧ a ≤ 8) (h2 : 0 ≤ b ∧ b ≤ 8) : 0 ≤ cif P a b ∧ cif P a b ≤ 8 := by
  rcases cif_or P a b with e | e
  · rw [e]
    exact h
  · rw [e]
    exact h2
theorem ft_r (f : Int → Int) (s : Int) : 0 ≤ ftN f s ∧ ftN f s ≤ 8 := cif_rng (cif_rng (cif_rng (cif_rng (cif_rng (cif_rng (cif_rng (cif_rng (by omega) (by omega)) (by omega)) (by omega)) (by omega)) (by omega)) (by omega)) (by omega)) (by omega)
section MOUNT
variable {L d : Nat} {xs : Nat → Int32}
theorem call_mount : ca_I (VV KC WW) L xs (d + 12) 223 387 [] := by
  intro k H hR
  obtain ⟨sh, M, nx, zl⟩ := H
  obtain ⟨⟨g1, g3, g4⟩, g5, g6, g7, hK⟩ : VV KC WW M := hR.2.2.2.2
  have ag : agr (M 99) (M 211) (M 168 59) := by
    intro i i0 i1
    have := sl_inj _ _ _ g4 i.toNat (by omega)
    rw [show (0 : Int) + ((i.toNat : Nat) : Int) = i by omega] at this
    exact this
  obtain ⟨f, gf⟩ : ∃ f : Int → Int, f = M 211 := ⟨_, rfl⟩
  obtain ⟨s, gs⟩ : ∃ s : Int, s = M 168 59 := ⟨_, rfl⟩
  have e98 : M 98 1 = s := g3.trans gs.symm
  rw [← gf, ← gs] at ag
  have eN := ft_cg ag
  have rN := ft_r (M 99) s
  refine m223 [fx 3] ?_
  refine fault_Y (f := M 99) (s := s) rfl e98 (by omega) hK.1 hK.2.1 hK.2.2.1 (fun M1 F1 ok1 => ?_)
  obtain ⟨r, gr⟩ : ∃ r : Int, r = ftN (M 99) s := ⟨_, rfl⟩
  rw [← gr] at rN eN ⊢
  have hO : r = 0 ↔ ftO (M 99) s := by
    rw [gr]
    exact ft_0
  -- behind the class's part
  have B18 : ∀ v : Int, (v = 1 ∧ r = 0 ∨ v = 0 ∧ r ≠ 0) → b223_18 (d + 11) (fW (d + 11) kd223 (fun w H1 => ∃ x : Int, w = some (ti x) ∧ (H1.1 0 = sh 0 ∧ H1.2.1 0 = M 0) ∧ fm_Y (d + 12) 387 [.ref 168] H1 (fun w2 H2 => w2 = some (ti x) ∧ RR (VV KC WW) L xs (k + 1) H2))) (fun w H1 => ∃ x : Int, w = some (ti x) ∧ (H1.1 0 = sh 0 ∧ H1.2.1 0 = M 0) ∧ fm_Y (d + 12) 387 [.ref 168] H1 (fun w2 H2 => w2 = some (ti x) ∧ RR (VV KC WW) L xs (k + 1) H2)) [some (fx 3), some (ti r)] [ti v, fx 3] (sh, M1, nx, zl) := by
    intro v hv
    have v01 : v = 0 ∨ v = 1 := by omega
    refine ⟨v01, ?_⟩
    refine ⟨r, rfl, ⟨rfl, ?_⟩, ?_⟩
    · show um M1 3 (ur (M1 3) 6 v) 0 = M 0
      rw [um_ne (by omega)]
      exact F1.1 0 (by omega)
    obtain ⟨P, gP⟩ : ∃ P : FM, P = um M1 3 (ur (M1 3) 6 v) := ⟨_, rfl⟩
    have po : ∀ c : Nat, c ≠ 3 → P c = M1 c := fun c hc => by rw [gP, um_ne hc]
    have p3 : P 3 = ur (M 3) 6 v := by rw [gP, um_at, F1.1 3 (by omega)]
    have pm : ∀ c : Nat, c ≠ 3 → (c < 97 ∨ 167 < c ∨ c = 98 ∨ c = 99 ∨ 151 ≤ c ∧ c ≤ 164) → P c = M c := fun c h1 h2 => (po c h1).trans (F1.1 c h2)
    have TL : fm_Y (d + 12) 387 [.ref 168] (sh, P, nx, zl) (fun w2 H2 => w2 = some (ti r) ∧ RR (VV KC WW) L xs (k + 1) H2) := by
      refine m387 [fx 168] ?_
      refine mfault_Y (d := d + 1) (f := f) (s := s) (by rw [pm 211 (by omega) (by omega)]; exact gf.symm) (by rw [pm 168 (by omega) (by omega)]; exact gs.symm) (by omega) (fun M2 F2 ok2 => ?_)
      rw [← eN]
      have B15 : b387_15 (d + 11) (fW (d + 11) kd387 (fun w2 H2 => w2 = some (ti r) ∧ RR (VV KC WW) L xs (k + 1) H2)) (fun w2 H2 => w2 = some (ti r) ∧ RR (VV KC WW) L xs (k + 1) H2) [some (fx 168), some (ti r)] [ti v, fx 168] (sh, M2, nx, zl) := by
        refine ⟨v01, ?_⟩
        obtain ⟨R, gR⟩ : ∃ R : FM, R = um M2 168 (ur (M2 168) 91 v) := ⟨_, rfl⟩
        have ro : ∀ c : Nat, c ≠ 168 → R c = M2 c := fun c hc => by rw [gR, um_ne hc]
        have r168 : ∀ i : Int, i ≠ 91 → R 168 i = M2 168 i := fun i hi => by rw [gR, um_at, ur_ne hi]
        have r91 : R 168 91 = v := by rw [gR, um_at, ur_at]
        have low : ∀ i : Int, i ≠ 91 → (i < 50 ∨ 57 < i ∧ i < 92) → R 168 i = M 168 i := fun i h1 h2 => (r168 i h1).trans ((F2.2 i h2).trans (by rw [pm 168 (by omega) (by omega)]))
        have rm : ∀ c : Nat, c ≠ 3 → c ≠ 168 → (c < 195 ∨ 210 < c) → (c < 238 ∨ 264 < c) → (c < 97 ∨ 167 < c ∨ c = 98 ∨ c = 99 ∨ 151 ≤ c ∧ c ≤ 164) → R c = M c := fun c h1 h2 h3 h4 h5 => (ro c h2).trans ((F2.1 c h2 h3 h4).trans (pm c h1 h5))
        have r3 : R 3 = ur (M 3) 6 v := by rw [ro 3 (by omega), F2.1 3 (by omega) (by omega) (by omega), p3]
        have TT : (some (ti r) : Option TV) = some (ti r) ∧ RR (VV KC WW) L xs (k + 1) (sh, R, nx, zl) := by
          refine ⟨rfl, RR_V hR (fun c hc => rm c (by omega) (by omega) (by omega) (by omega) (by omega)) (fun i hi => low i (by omega) (by omega)) (by rw [r3, ur_ne (by omega)]) ⟨⟨?_, ?_, ?_⟩, ?_, ?_, fun z => ?_, ?_⟩⟩
          · rw [rm 98 (by omega) (by omega) (by omega) (by omega) (by omega)]
            exact g1
          · rw [rm 98 (by omega) (by omega) (by omega) (by omega) (by omega), low 59 (by omega) (by omega)]
            exact g3
          · rw [rm 99 (by omega) (by omega) (by omega) (by omega) (by omega), rm 211 (by omega) (by omega) (by omega) (by omega) (by omega), low 59 (by omega) (by omega)]
            exact g4
          · rw [r3, ur_ne (by omega), low 90 (by omega) (by omega)]
            exact g5
          · rw [r3, ur_at, r91]
          · rw [r3, ur_at] at z
            have r0 : r = 0 := by omega
            have O1 := hO.1 r0
            have O2 : ftO f s := by
              rw [← ft_0, ← eN]
              exact r0
            unfold WW
            rw [rm 211 (by omega) (by omega) (by omega) (by omega) (by omega), low 59 (by omega) (by omega), ← gf, ← gs]
            refine ⟨O2, mtC_to (mtC_cg ag O1 (ok1 O1)) (fun c hc => ?_), mtM_to (ok2 O2) (fun c hc => ro c (by omega)) (fun i hi => r168 i (by omega))⟩
            rw [ro c (by omega), F2.1 c (by omega) (by omega) (by omega), po c (by omega)]
          · refine KC_to hK (fun c hc => rm c (by omega) (by omega) (by omega) (by omega) (by omega)) ?_
            rw [ro 114 (by omega), F2.1 114 (by omega) (by omega) (by omega), po 114 (by omega)]
            exact F1.2
        rw [gR] at TT
        exact TT
      refine ⟨by omega, fun w => ?_, fun w => ?_⟩
      · have v0 : v = 0 := by omega
        rw [v0] at B15
        exact B15
      · have v1 : v = 1 := by omega
        rw [v1] at B15
        exact B15
    rw [gP] at TL
    exact TL
  refine ⟨by omega, fun w => B18 0 (by omega), fun w => B18 1 (by omega)⟩
end MOUNT
