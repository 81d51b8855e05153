/-! MOUNTING: the fault; the class -/
def ftO (f : Int → Int) (s : Int) : Prop := suP f s ∧ plP f ∧ rwQ f ∧ fq4 f ∧ fq5 f ∧ fq6 f ∧ fq7 f ∧ fq8 f
theorem ft_0 {f : Int → Int} {s : Int} : ftN f s = 0 ↔ ftO f s := by
  have E : ftN f s = cif (suP f s) (cif (plP f) (cif (rwQ f) (cif (fq4 f) (cif (fq5 f) (cif (fq6 f) (cif (fq7 f) (cif (fq8 f) 0 8) 7) 6) 5) 4) 3) 2) 1 := rfl
  rw [E]
  constructor
  · intro h
    by_cases h1 : suP f s
    · rw [cif_pos h1] at h
      by_cases h2 : plP f
      · rw [cif_pos h2] at h
        by_cases h3 : rwQ f
        · rw [cif_pos h3] at h
          by_cases h4 : fq4 f
          · rw [cif_pos h4] at h
            by_cases h5 : fq5 f
            · rw [cif_pos h5] at h
              by_cases h6 : fq6 f
              · rw [cif_pos h6] at h
                by_cases h7 : fq7 f
                · rw [cif_pos h7] at h
                  by_cases h8 : fq8 f
                  · exact ⟨h1, h2, h3, h4, h5, h6, h7, h8⟩
                  · rw [cif_neg h8] at h
                    cases h
                · rw [cif_neg h7] at h
                  cases h
              · rw [cif_neg h6] at h
                cases h
            · rw [cif_neg h5] at h
              cases h
          · rw [cif_neg h4] at h
            cases h
        · rw [cif_neg h3] at h
          cases h
      · rw [cif_neg h2] at h
        cases h
    · rw [cif_neg h1] at h
      cases h
  · rintro ⟨h1, h2, h3, h4, h5, h6, h7, h8⟩
    rw [cif_pos h1, cif_pos h2, cif_pos h3, cif_pos h4, cif_pos h5, cif_pos h6, cif_pos h7, cif_pos h8]
/-- what is known of the rows read -/
theorem rows_r {f : Int → Int} {s : Int} (hs : s ≤ 131072) (hsu : suP f s) (hpl : plP f) (hrw : rwQ f) : (shR (rwR (qI f)) (rwS (qI f)) ∧ (rwS (qI f)).length ≤ 8 ∧ (rwR (qI f)).length ≤ 65536) ∧ (shR (rwR (qL f)) (rwS (qL f)) ∧ (rwS (qL f)).length ≤ 8 ∧ (rwR (qL f)).length ≤ 65536) ∧ (0 < le f 16 4 → ((rwR (qF f)).length : Int) = 16 * le f 16 4) ∧ (plX f ≠ -1 → ((rwR (qX f)).length : Int) = 8 * le f 4 4) ∧ ((rwR (qD f)).length : Int) = 4 * le f 26 2 := by
  obtain ⟨t1, t2, t3, t4⟩ := hsu.2.2.2.2.2
  obtain ⟨tA, -, -, -⟩ := pl_tabs hsu hpl.1
  have hu : plU f = s64 (le f 40 8) := rfl
  obtain ⟨⟨r1, r2⟩, r3, r4, r5, r6⟩ := hrw
  have a1 := rd_sh (by omega) (by omega) hpl.2.1 r1
  have a2 := rd_sh (by omega) (by omega) hpl.2.2 r2
  have b1 := rdS_len r1
  have b2 := rdS_len r2
  have x1 := a1.1
  have x2 := a2.1
  exact ⟨⟨a1, b1.2, by omega⟩, ⟨a2, b2.2, by omega⟩, fun z => (r3 z).2, fun z => (r4 z).2, r6⟩
theorem nbR_one {IR IS : List Int} {h : Int → Int} {x y r r2 : Int} (hs : shR IR IS) (h1 : nbR IR IS h x y r) (h2 : nbR IR IS h x y r2) : r = r2 := by
  rcases h2 with ⟨z, z1, z2⟩ | ⟨z1, z2⟩
  · rw [z2]
    exact nbR_fl hs h1 z1
  · rcases h1 with ⟨w, w1, w2⟩ | ⟨w1, w2⟩
    · exact absurd w1 (z1 w)
    · omega
theorem rof_is {f : Int → Int} {r : Int} (hs : shR (rwR (qI f)) (rwS (qI f))) (h : nbR (rwR (qI f)) (rwS (qI f)) (hf f) (s64 (le f 32 8) % 18446744073709551616 / 65536) (s64 (le f 32 8) % 65536) r) : rof f = r := nbR_one hs (Classical.epsilon_spec (p := fun r => nbR (rwR (qI f)) (rwS (qI f)) (hf f) (s64 (le f 32 8) % 18446744073709551616 / 65536) (s64 (le f 32 8) % 65536) r) ⟨r, h⟩) h
/-- what the class keeps of a mounted image -/
def mtC (M : FM) (f : Int → Int) (s : Int) : Prop := s8C M (rwR (qI f)) (rwS (qI f)) (rwR (qL f)) (rwS (qL f)) (le f 12 4) (le f 26 2) (le f 16 4) (le f 4 4) (plf f) (hf f) f (lf (rwR (qF f))) s (s64 (le f 64 8)) ∧ (M 127 1 = 4 * le f 26 2 ∧ agr (M 128) (lf (rwR (qD f))) (4 * le f 26 2)) ∧ M 97 17 = rof f ∧ eqN (le f 4 4) (M 115) (eaQ f) ∧ (∀ i : Int, 0 ≤ i → i < le f 16 4 → M 167 i = fsF f (le f 12 4) (lf (rwR (qF f))) i)
/-- what a mounting leaves of the class's cells -/
def fcF (M M2 : FM) : Prop := (∀ c : Nat, (c < 97 ∨ 167 < c ∨ c = 98 ∨ c = 99 ∨ 151 ≤ c ∧ c ≤ 164) → M2 c = M c) ∧ M2 114 0 = M 114 0
theorem qN_is {f pl h : Int → Int} (e : qN f = some (pl, h)) : plf f = pl ∧ hf f = h := by
  unfold plf hf
  rw [e]
  exact ⟨rfl, rfl⟩
section CFAULT
variable {d nx zl : Nat} {K : Option TV → FH → Prop} {sh : Nat → Option Shp} {M : FM}
theorem fault_Y {f : Int → Int} {s : Int} (gf : M 99 = f) (gs : M 98 1 = s) (hs : 0 ≤ s ∧ s ≤ 131072) (hfx : uFx M) (h2 : ∀ i : Int, 0 ≤ i → i < 15 → M 2 i = fxT i) (h114 : M 114 0 = 0) (k : ∀ M2 : FM, fcF M M2 → (ftO f s → mtC M2 f s) → K (some (ti (ftN f s))) (sh, M2, nx, zl)) : fm_Y (d + 8) 127 [.ref 97] (sh, M, nx, zl) K := by
  have E : ftN f s = cif (suP f s) (cif (plP f) (cif (rwQ f) (cif (fq4 f) (cif (fq5 f) (cif (fq6 f) (cif (fq7 f) (cif (fq8 f) 0 8) 7) 6) 5) 4) 3) 2) 1 := rfl
  rw [E] at k
  refine m127 [fx 97] ?_
  refine super_Y (by omega) (fun no M1 F1 => ?_) (fun su M1 F1 sc => ?_)
  · rw [gf, gs] at no
    rw [cif_neg no] at k
    exact ⟨by omega, fun q => absurd rfl q, fun _ => k M1 ⟨fun c hc => F1 c (by omega), by rw [F1 114 (by omega)]⟩ (fun q => absurd q.1 no)⟩
  rw [gf, gs] at su
  rw [gf] at sc
  rw [cif_pos su] at k
  obtain ⟨⟨eB, sB, sB2⟩, sn, sF, sI, sA⟩ := su_B su
  have s0 := su.1
  obtain ⟨t1, t2, t3, t4⟩ := su.2.2.2.2.2
  have f1 : M1 99 = f := (F1 99 (by omega)).trans gf
  have g1 : M1 98 1 = s := by rw [F1 98 (by omega)]; exact gs
  have u1 : uFx M1 := uFx_to hfx (fun c hc => F1 c (by omega))
  refine ⟨by omega, fun _ => ?_, fun q => by omega⟩
  refine placesHold_Y (by omega) (by rw [f1, g1]; exact su) (by rw [f1]; exact sc) (fun z hz => ?_)
  rw [f1] at hz
  rcases hz.symm with ⟨z1, z2⟩ | ⟨z1, pl0⟩
  · rw [z1]
    rw [cif_neg z2] at k
    exact ⟨by omega, fun q => absurd rfl q, fun _ => k M1 ⟨fun c hc => F1 c (by omega), by rw [F1 114 (by omega)]⟩ (fun q => absurd q.2.1 z2)⟩
  rw [z1]
  rw [cif_pos pl0] at k
  obtain ⟨tA, tF, tX, tD⟩ := pl_tabs su pl0.1
  refine ⟨by omega, fun _ => ?_, fun q => by omega⟩
  refine piecesHold_Y (by omega) (by rw [f1, g1]; exact su) (by rw [f1]; exact sc) u1 (by rw [f1]; exact pl0) (fun M2 F2 no => ?_) (fun M2 IR IS LR LS FR FS XR XS DR DS F2 rp rv => ?_)
  · rw [f1, rwE_Q] at no
    rw [cif_neg no] at k
    exact ⟨by omega, fun q => absurd rfl q, fun _ => k M2 ⟨fun c hc => (F2 c (by omega) (by omega)).trans (F1 c (by omega)), by rw [F2 114 (by omega) (by omega), F1 114 (by omega)]⟩ (fun q => absurd q.2.2.1 no)⟩
  rw [f1] at rp rv
  have hrw := rwQ_of rp
  rw [cif_pos hrw] at k
  obtain ⟨⟨rfl, rfl⟩, ⟨rfl, rfl⟩, iF, iX, ⟨rfl, rfl⟩⟩ := rw_is rp
  obtain ⟨⟨shI, lS, lI⟩, ⟨shL, lLS, lL⟩, lF, lX, lD⟩ := rows_r hs.2 su pl0 hrw
  obtain ⟨⟨prI, prL⟩, prF, prX, ⟨eD, prD⟩⟩ := rv
  have c97 : M2 97 = M1 97 := F2 97 (by omega) (by omega)
  obtain ⟨d9, d10, d11, d12, d13, d14, d15, d16⟩ := sc
  rw [← c97] at d9 d10 d11 d12 d13 d14 d15 d16
  rw [← eB] at d9
  have Fr2 : ∀ c : Nat, (c < 97 ∨ 167 < c ∨ c = 98 ∨ c = 99 ∨ 151 ≤ c ∧ c ≤ 164 ∨ c = 114) → M2 c = M c := fun c hc => (F2 c (by omega) (by omega)).trans (F1 c (by omega))
  refine ⟨by omega, fun _ => ?_, fun q => by omega⟩
  have rowF : 0 < le f 16 4 → M2 119 1 = 16 * le f 16 4 ∧ agr (M2 120) (lf (rwR (qF f))) (16 * le f 16 4) := by
    intro z
    obtain ⟨e, pv⟩ := prF z
    have pr := prV_row pv
    rw [← (iF z).1] at pr
    have ln := lF z
    rw [ln] at pr
    exact pr
  refine fragmentsHold_Y (g := lf (rwR (qF f))) d11 (by omega) d9 (by omega) d15 (by omega) rowF (fun z hz => ?_)
  rcases hz.symm with ⟨z1, z2⟩ | ⟨z1, h4⟩
  · rw [z1]
    have z2' : ¬ fq4 f := z2
    rw [cif_neg z2'] at k
    exact ⟨by omega, fun q => absurd rfl q, fun _ => k M2 ⟨fun c hc => Fr2 c (by omega), by rw [Fr2 114 (by omega)]⟩ (fun q => absurd q.2.2.2.1 z2')⟩
  have h4' : fq4 f := h4
  rw [z1]
  rw [cif_pos h4'] at k
  refine ⟨by omega, fun _ => ?_, fun q => by omega⟩
  have rI := prV_row prI
  have rL := prV_row prL
  refine hold_Y (g := lf (rwR (qI f))) (N := (rwR (qI f)).length) (n := M2 97 10) (B := M2 97 9) (ids := M2 97 12) (F := M2 97 11) ⟨rI.1, rI.2, by omega, by omega⟩ (by omega) (by rw [Fr2 2 (by omega)]; exact h2) (by omega) (by omega) (by omega) (fun M3 H3 hin => ?_) (fun M3 pl h H3 hin hv hp hb => ?_)
  · rw [d9, d10, d11, d12] at hin
    have n5 : ¬ fq5 f := by
      intro q
      have := q.1
      rw [hin] at this
      cases this
    rw [cif_neg n5] at k
    exact ⟨by omega, fun _ => k M3 ⟨fun c hc => (H3.1 c (by omega) (by omega) (by omega) (by omega)).trans (Fr2 c (by omega)), by rw [H3.1 114 (by omega) (by omega) (by omega) (by omega), Fr2 114 (by omega)]⟩ (fun q => absurd q.2.2.2.2.1 n5), fun q => absurd rfl q⟩
  rw [d10, d9] at H3
  rw [d9, d10, d11, d12] at hin hv
  rw [d10] at hp hb
  obtain ⟨ep, eh⟩ := qN_is (f := f) hin
  subst ep eh
  have h3 : ∀ c : Nat, c ≠ 101 → c ≠ 106 → c ≠ 107 → c ≠ 108 → M3 c = M2 c := H3.1
  have Fr3 : ∀ c : Nat, (c < 97 ∨ 167 < c ∨ c = 98 ∨ c = 99 ∨ 151 ≤ c ∧ c ≤ 164 ∨ c = 114) → M3 c = M c := fun c hc => (h3 c (by omega) (by omega) (by omega) (by omega)).trans (Fr2 c hc)
  have piI : piV M3 102 104 103 (rwR (qI f)) (rwS (qI f)) := piV_to (prV_pi prI shI lS) (h3 102 (by omega) (by omega) (by omega) (by omega)) (h3 104 (by omega) (by omega) (by omega) (by omega)) (h3 103 (by omega) (by omega) (by omega) (by omega))
  have piL : piV M3 109 111 110 (rwR (qL f)) (rwS (qL f)) := piV_to (prV_pi prL shL lLS) (h3 109 (by omega) (by omega) (by omega) (by omega)) (h3 111 (by omega) (by omega) (by omega) (by omega)) (h3 110 (by omega) (by omega) (by omega) (by omega))
  have e97 : M3 97 = M2 97 := h3 97 (by omega) (by omega) (by omega) (by omega)
  refine ⟨by omega, fun q => by omega, fun _ => ?_⟩
  have hX : plX f = s64 (le f 88 8) := rfl
  refine exportsHold_Y (x := lf (rwR (qX f))) (pl := plf f) (h := hf f) (n := le f 4 4) piI (by omega) ⟨H3.2.1, by rw [e97]; exact d10⟩ (by omega) hb hv (fun z => ?_) (fun z hz => ?_)
  · rw [e97] at z
    have zx : plX f ≠ -1 := by
      rw [hX]
      exact fun q => z (d13.2 q)
    obtain ⟨e, pv⟩ := prX zx
    have pr := prV_row pv
    rw [← (iX zx).1] at pr
    have ln := lX zx
    rw [ln] at pr
    rw [h3 123 (by omega) (by omega) (by omega) (by omega), h3 124 (by omega) (by omega) (by omega) (by omega)]
    exact pr
  rw [e97] at hz
  rcases hz.symm with ⟨z1, z2, z3⟩ | ⟨z1, z2⟩
  · have n5 : ¬ fq5 f := by
      intro q
      refine z3 (q.2 ?_)
      rw [hX]
      exact fun q => z2 (d13.2 q)
    rw [z1]
    rw [cif_neg n5] at k
    exact ⟨by omega, fun q => absurd rfl q, fun _ => k M3 ⟨fun c hc => Fr3 c (by omega), by rw [Fr3 114 (by omega)]⟩ (fun q => absurd q.2.2.2.2.1 n5)⟩
  have h5 : fq5 f := by
    refine ⟨hin, fun q => ?_⟩
    rw [hX] at q
    rcases z2 with y | y
    · exact absurd (d13.1 y) q
    · exact y
  rw [z1]
  rw [cif_pos h5] at k
  refine ⟨by omega, fun _ => ?_, fun q => by omega⟩
  have hL3 : ltC M3 (rwR (qI f)) (rwS (qI f)) (rwR (qL f)) (rwS (qL f)) (le f 12 4) (le f 26 2) (le f 16 4) (le f 4 4) (plf f) (hf f) := by
    refine ⟨⟨⟨⟨?_, ?_, by omega, by omega⟩, ⟨H3.2.2, sB, sB2⟩, ?_⟩, ⟨H3.2.1, sn.1, sn.2⟩, hp, hb⟩, hv, piI, piL, ?_, by omega⟩
    · rw [h3 104 (by omega) (by omega) (by omega) (by omega)]
      exact rI.1
    · rw [h3 105 (by omega) (by omega) (by omega) (by omega)]
      exact rI.2
    · rw [Fr3 2 (by omega)]
      exact h2
    · rw [h3 112 (by omega) (by omega) (by omega) (by omega)]
      exact rL.2
  refine lhold_Y hL3 (fun M4 F4 no => ?_) (fun M4 F4 ls ct => ?_)
  · have n6 : ¬ fq6 f := no
    rw [cif_neg n6] at k
    exact ⟨by omega, fun q => absurd rfl q, fun _ => k M4 ⟨fun c hc => (F4.1 c (by omega) (by omega)).trans (Fr3 c (by omega)), by rw [F4.2, Fr3 114 (by omega)]⟩ (fun q => absurd q.2.2.2.2.2.1 n6)⟩
  have h6 : fq6 f := ls
  rw [cif_pos h6] at k
  have Fr4 : ∀ c : Nat, (c < 97 ∨ 167 < c ∨ c = 98 ∨ c = 99 ∨ 151 ≤ c ∧ c ≤ 164) → M4 c = M c := fun c hc => (F4.1 c (by omega) (by omega)).trans (Fr3 c (by omega))
  have z114 : M4 114 0 = M 114 0 := by rw [F4.2, Fr3 114 (by omega)]
  have hL4 := ltC_to hL3 (M2 := M4) (fun c hc => F4.1 c (by omega) (by omega))
  have f4 : M4 99 = f := (Fr4 99 (by omega)).trans gf
  have g4 : M4 98 1 = s := by rw [Fr4 98 (by omega)]; exact gs
  refine ⟨by omega, fun _ => ?_, fun q => by omega⟩
  refine i8_Y (p := 32) (by omega) (by omega) (fun r32 => ?_)
  rw [f4] at r32 ⊢
  refine numberBy_Y (h := hf f) (n := le f 4 4) hL4.2.2.1 (by omega) hL4.1.2.1.1 (by omega) r32 hL4.1.2.2.2 (fun r hr => ?_)
  have hnb : nbR (rwR (qI f)) (rwS (qI f)) (hf f) (s64 (le f 32 8) % 18446744073709551616 / 65536) (s64 (le f 32 8) % 65536) r := hr
  have er := rof_is shI hnb
  have rr := nbR_r hv (by omega) hnb
  obtain ⟨P, gP⟩ : ∃ P : FM, P = pq M4 97 17 r := ⟨_, rfl⟩
  have po : ∀ c : Nat, c ≠ 97 → P c = M4 c := fun c hc => by rw [gP, pq_o _ _ _ hc]
  have pn : ∀ i : Int, i ≠ 17 → P 97 i = M2 97 i := fun i hi => by rw [gP, pq_ne _ _ _ _ hi, F4.1 97 (by omega) (by omega), e97]
  have p17 : P 97 17 = r := by rw [gP, pq_at]
  have hLP := ltC_to hL4 (M2 := P) (fun c hc => po c (by omega))
  have FrP : ∀ c : Nat, (c < 97 ∨ 167 < c ∨ c = 98 ∨ c = 99 ∨ 151 ≤ c ∧ c ≤ 164) → P c = M c := fun c hc => (po c (by omega)).trans (Fr4 c hc)
  have zP : P 114 0 = M 114 0 := by rw [po 114 (by omega)]; exact z114
  have ctP : ctA (le f 4 4) (lf (rwR (qL f))) (kdF (rwR (qI f)) (plf f)) (lsF (rwR (qI f)) (rwS (qI f)) (rwR (qL f)) (rwS (qL f)) (hf f) (plf f)) (le f 4 4).toNat P := by
    unfold ctA
    rw [po 113 (by omega), po 114 (by omega), po 115 (by omega), po 116 (by omega)]
    exact ct
  have hBP := ct_B sn shL lL ls ctP (by rw [zP]; exact h114)
  have h8P : s8C P (rwR (qI f)) (rwS (qI f)) (rwR (qL f)) (rwS (qL f)) (le f 12 4) (le f 26 2) (le f 16 4) (le f 4 4) (plf f) (hf f) f (lf (rwR (qF f))) s (s64 (le f 64 8)) := by
    refine ⟨hLP, ⟨by rw [pn 9 (by omega)]; exact d9, by rw [pn 10 (by omega)]; exact d10, by rw [pn 11 (by omega)]; exact d11, by rw [pn 15 (by omega)]; exact d15⟩, ⟨by rw [FrP 98 (by omega)]; exact gs, ?_, by omega⟩, ⟨by omega, fun z => ?_, h4⟩, uFx_to hfx (fun c hc => FrP c (by omega))⟩
    · rw [FrP 99 (by omega), gf]
      exact fun _ _ _ => rfl
    · rw [po 119 (by omega), po 120 (by omega), F4.1 119 (by omega) (by omega), F4.1 120 (by omega) (by omega), h3 119 (by omega) (by omega) (by omega) (by omega), h3 120 (by omega) (by omega) (by omega) (by omega)]
      exact rowF z
  have T1 : (o_al 0 (o_get 8 1 1 (o_al 0 (o_get 8 17 17 (o_callv (d + 7) 196 1 9 (o_if .ne (o_al 0 (o_callv (d + 7) 201 0 8 (o_if .eq (b127_146 (d + 7) (fW (d + 7) kd127 K) K) (o_al 0 (b127_129 (d + 7) (fW (d + 7) kd127 K) K))))) (o_ic 7 (o_iret K))))))) : FC) [some (fx 97)] [] (sh, P, nx, zl) := by
    refine makeTree_Y (r := P 97 17) hLP hBP (by rw [p17]; exact rr) (fun z hz => ?_)
    rw [p17] at hz
    rcases hz.symm with ⟨z1, z2⟩ | ⟨z1, z2⟩
    · have n7 : ¬ fq7 f := by
        intro q
        unfold fq7 at q
        rw [er] at q
        exact z2 q
      rw [z1]
      rw [cif_neg n7] at k
      exact ⟨by omega, fun q => absurd rfl q, fun _ => k P ⟨FrP, zP⟩ (fun q => absurd q.2.2.2.2.2.2.1 n7)⟩
    have h7 : fq7 f := by
      unfold fq7
      rw [er]
      exact z2
    rw [z1]
    rw [cif_pos h7] at k
    refine ⟨by omega, fun _ => ?_, fun q => by omega⟩
    refine dataFits_Y h8P (fun y hy => ?_)
    rcases hy.symm with ⟨y1, y2⟩ | ⟨y1, y2⟩
    · have n8 : ¬ fq8 f := fun q => y2 q.1
      rw [y1]
      rw [cif_neg n8] at k
      exact ⟨by omega, fun _ => k P ⟨FrP, zP⟩ (fun q => absurd q.2.2.2.2.2.2.2 n8), fun q => absurd rfl q⟩
    rw [y1]
    refine ⟨by omega, fun q => by omega, fun _ => ?_⟩
    refine fragmentsUnpack_Y h8P (fun M5 F5 no => ?_) (fun M5 F5 fo fs => ?_)
    · have n8 : ¬ fq8 f := fun q => no q.2.1
      rw [cif_neg n8] at k
      exact ⟨by omega, fun _ => k M5 ⟨fun c hc => (F5 c (by omega) (by omega) (by omega) (by omega)).trans (FrP c hc), by rw [F5 114 (by omega) (by omega) (by omega) (by omega)]; exact zP⟩ (fun q => absurd q.2.2.2.2.2.2.2 n8), fun q => absurd rfl q⟩
    refine ⟨by omega, fun q => by omega, fun _ => ?_⟩
    refine blocksUnpack_Y (s8C_to h8P F5) fs (fun M6 v F6 e67 hv2 => ?_)
    have F56 := d8_trans F5 F6
    have FF : fcF M M6 := ⟨fun c hc => (F56 c (by omega) (by omega) (by omega) (by omega)).trans (FrP c hc), by rw [F56 114 (by omega) (by omega) (by omega) (by omega)]; exact zP⟩
    rcases hv2.symm with ⟨v1, v2⟩ | ⟨v1, v2⟩
    · have n8 : ¬ fq8 f := fun q => v2 q.2.2
      rw [v1]
      rw [cif_neg n8] at k
      exact ⟨by omega, fun _ => k M6 FF (fun q => absurd q.2.2.2.2.2.2.2 n8), fun q => absurd rfl q⟩
    have h8 : fq8 f := ⟨y2, fo, v2⟩
    rw [v1]
    rw [cif_pos h8] at k
    refine ⟨by omega, fun q => by omega, fun _ => k M6 FF (fun _ => ⟨s8C_to h8P F56, ?_, ?_, ?_, ?_⟩)⟩
    · have rD := prV_row prD
      rw [lD] at rD
      rw [F56 127 (by omega) (by omega) (by omega) (by omega), F56 128 (by omega) (by omega) (by omega) (by omega), po 127 (by omega), po 128 (by omega), F4.1 127 (by omega) (by omega), F4.1 128 (by omega) (by omega), h3 127 (by omega) (by omega) (by omega) (by omega), h3 128 (by omega) (by omega) (by omega) (by omega)]
      exact rD
    · rw [F56 97 (by omega) (by omega) (by omega) (by omega), er]
      exact p17
    · rw [F56 115 (by omega) (by omega) (by omega) (by omega)]
      exact ctP.2.2.1
    · rw [e67]
      exact fs
  rw [gP] at T1
  exact T1
end CFAULT
