/-! MOUNTING: the fault; the reference -/
def mtM (M : FM) (f : Int → Int) (s : Int) : Prop := s8M M (rwR (qI f)) (rwS (qI f)) (rwR (qL f)) (rwS (qL f)) (le f 12 4) (le f 26 2) (le f 16 4) (le f 4 4) (plf f) (hf f) f (lf (rwR (qF f))) s (s64 (le f 64 8)) ∧ agr (M 257) (lf (rwR (qD f))) (4 * le f 26 2) ∧ M 168 119 = rof f ∧ (∀ i : Int, 0 ≤ i → i < le f 16 4 → M 263 i = fsF f (le f 12 4) (lf (rwR (qF f))) i)
def fmF (M M2 : FM) : Prop := (∀ c : Nat, c ≠ 168 → (c < 195 ∨ 210 < c) → (c < 238 ∨ 264 < c) → M2 c = M c) ∧ ∀ i : Int, (i < 50 ∨ 57 < i ∧ i < 92) → M2 168 i = M 168 i
section MFAULT
variable {d nx zl : Nat} {K : Option TV → FH → Prop} {sh : Nat → Option Shp} {M : FM}
theorem mfault_Y {f : Int → Int} {s : Int} (gf : M 211 = f) (gs : M 168 59 = s) (hs : 0 ≤ s ∧ s ≤ 131072) (k : ∀ M2 : FM, fmF M M2 → (ftO f s → mtM M2 f s) → K (some (ti (ftN f s))) (sh, M2, nx, zl)) : fm_Y (d + 10) 317 [.ref 168] (sh, M, nx, zl) K := by
  have E : ftN f s = cif (suP f s) (cif (plP f) (cif (rwQ f) (cif (fq4 f) (cif (fq5 f) (cif (fq6 f) (cif (fq7 f) (cif (fq8 f) 0 8) 7) 6) 5) 4) 3) 2) 1 := rfl
  rw [E] at k
  refine m317 [fx 168] ?_
  refine msuper_Y (by omega) (fun no => ?_) (fun su M1 F1 G1 sc => ?_)
  · rw [gf, gs] at no
    rw [cif_neg no] at k
    exact ⟨by omega, fun q => absurd rfl q, fun _ => k M ⟨fun _ _ _ _ => rfl, fun _ _ => rfl⟩ (fun q => absurd q.1 no)⟩
  rw [gf, gs] at su
  rw [gf] at sc
  rw [cif_pos su] at k
  obtain ⟨⟨eB, sB, sB2⟩, sn, sF, sI, sA⟩ := su_B su
  have s0 := su.1
  obtain ⟨t1, t2, t3, t4⟩ := su.2.2.2.2.2
  have f1 : M1 211 = f := (F1 211 (by omega)).trans gf
  have FF1 : fmF M M1 := ⟨fun c c1 _ _ => F1 c c1, fun i hi => G1 i (by omega)⟩
  refine ⟨by omega, fun _ => ?_, fun q => by omega⟩
  refine arePlaces_Y (s := s) hs (by rw [f1]; exact su) (by rw [f1]; exact sc) (fun z hz => ?_)
  rw [f1] at hz
  rcases hz.symm with ⟨z1, z2⟩ | ⟨z1, pl0⟩
  · rw [z1]
    rw [cif_neg z2] at k
    exact ⟨by omega, fun q => absurd rfl q, fun _ => k M1 FF1 (fun q => absurd q.2.1 z2)⟩
  rw [z1]
  rw [cif_pos pl0] at k
  refine ⟨by omega, fun _ => ?_, fun q => by omega⟩
  refine areRows_Y (s := s) (by omega) (by rw [f1]; exact su) (by rw [f1]; exact sc) (by rw [f1]; exact pl0) (fun M2 F2 no => ?_) (fun M2 IR IS LR LS FR FS XR XS DR DS F2 rp rv => ?_)
  · rw [f1, rwE_Q] at no
    rw [cif_neg no] at k
    exact ⟨by omega, fun q => absurd rfl q, fun _ => k M2 ⟨fun c c1 c2 c3 => (F2.1 c c1 c2 (by omega)).trans (FF1.1 c c1 c2 c3), fun i hi => (F2.2 i (by omega)).trans (FF1.2 i hi)⟩ (fun q => absurd q.2.2.1 no)⟩
  rw [f1] at rp rv
  have FF2 : fmF M M2 := ⟨fun c c1 c2 c3 => (F2.1 c c1 c2 (by omega)).trans (FF1.1 c c1 c2 c3), fun i hi => (F2.2 i (by omega)).trans (FF1.2 i hi)⟩
  have hrw := rwQ_of rp
  rw [cif_pos hrw] at k
  obtain ⟨⟨rfl, rfl⟩, ⟨rfl, rfl⟩, iF, iX, ⟨rfl, rfl⟩⟩ := rw_is rp
  obtain ⟨⟨shI, lS, lI⟩, ⟨shL, lLS, lL⟩, lF, lX, lD⟩ := rows_r hs.2 su pl0 hrw
  obtain ⟨⟨prI, prL⟩, prF, prX, prD⟩ := rv
  obtain ⟨⟨d92, d93, d94, d95⟩, ⟨d96, d97, d98, d99⟩, d100, d101, d102⟩ := sc
  rw [← F2.2 92 (by omega)] at d92
  rw [← F2.2 93 (by omega)] at d93
  rw [← F2.2 94 (by omega)] at d94
  rw [← F2.2 95 (by omega)] at d95
  rw [← F2.2 96 (by omega)] at d96
  rw [← F2.2 98 (by omega)] at d98
  rw [← F2.2 101 (by omega)] at d101
  have rowF : 0 < le f 16 4 → agr (M2 249) (lf (rwR (qF f))) (16 * le f 16 4) := by
    intro z
    have pr := rrV_row (prF z)
    rw [← (iF z).1] at pr
    have ln := lF z
    rw [ln] at pr
    exact pr.2
  refine ⟨by omega, fun _ => ?_, fun q => by omega⟩
  refine areFragments_Y (g := lf (rwR (qF f))) d94 (by omega) d93 (by omega) d98 (by omega) rowF (fun z hz => ?_)
  rcases hz.symm with ⟨z1, z2⟩ | ⟨z1, h4⟩
  · rw [z1]
    have z2' : ¬ fq4 f := z2
    rw [cif_neg z2'] at k
    exact ⟨by omega, fun q => absurd rfl q, fun _ => k M2 FF2 (fun q => absurd q.2.2.2.1 z2')⟩
  have h4' : fq4 f := h4
  rw [z1]
  rw [cif_pos h4'] at k
  refine ⟨by omega, fun _ => ?_, fun q => by omega⟩
  have rI := rrV_row prI
  have rL := rrV_row prL
  have hX : plX f = s64 (le f 88 8) := rfl
  have xr := s64_r (le f 88 8)
  have shI1 := shI.1
  have ndM2 : ndM M2 (lf (rwR (qI f))) (rwR (qI f)).length (le f 12 4) (le f 26 2) (le f 16 4) := ⟨⟨rI.1, rI.2, by omega, by omega⟩, ⟨d93, sB, sB2⟩, ⟨d94, sF.1, sF.2⟩, d95, by omega, by omega⟩
  have st239 : ∀ i : Int, 0 ≤ i → i < (rwS (qI f)).length → M2 239 i = lf (rwS (qI f)) i := by
    intro i i0 i1
    have := prI.2.2.1 i.toNat (by omega)
    rw [show ((i.toNat : Nat) : Int) = i by omega] at this
    exact this
  refine areInodes_Y (g := lf (rwR (qI f))) (N := (rwR (qI f)).length) (n := le f 4 4) (S := rwS (qI f)) (x := lf (rwR (qX f))) (xl := plX f) ndM2 d92 sn (by rw [hX]; exact d101) (by rw [hX]; exact xr) (fun zx => ?_) (fun i i0 i1 => ⟨st239 i i0 i1, shI.2.1 i i0 i1⟩) lS (by omega) (fun M3 F3 no => ?_) (fun M3 pl h F3 hin hv hp hb => ?_)
  · have pr := rrV_row (prX zx)
    rw [← (iX zx).1] at pr
    have ln := lX zx
    rw [ln] at pr
    exact pr.2
  · have n5 : ¬ fq5 f := no _ _
    rw [cif_neg n5] at k
    exact ⟨by omega, fun q => absurd rfl q, fun _ => k M3 ⟨fun c c1 c2 c3 => (F3 c (by omega) (by omega)).trans (FF2.1 c c1 c2 c3), fun i hi => by rw [F3 168 (by omega) (by omega)]; exact FF2.2 i hi⟩ (fun q => absurd q.2.2.2.2.1 n5)⟩
  obtain ⟨ep, eh⟩ := qN_is (f := f) hin.1
  subst ep eh
  have h5 : fq5 f := hin
  rw [cif_pos h5] at k
  have e168 : M3 168 = M2 168 := F3 168 (by omega) (by omega)
  have FF3 : fmF M M3 := ⟨fun c c1 c2 c3 => (F3 c (by omega) (by omega)).trans (FF2.1 c c1 c2 c3), fun i hi => by rw [e168]; exact FF2.2 i hi⟩
  have hL3 : mlC M3 (rwR (qI f)) (rwS (qI f)) (rwR (qL f)) (rwS (qL f)) (le f 12 4) (le f 26 2) (le f 16 4) (le f 4 4) (plf f) (hf f) := by
    refine ⟨⟨ndM_to ndM2 (F3 238 (by omega) (by omega)) (F3 241 (by omega) (by omega)) e168, ⟨by rw [e168]; exact d92, sn.1, sn.2⟩, hp, hb⟩, hv, ⟨shI, ?_, ?_, lS⟩, ⟨?_, ?_⟩, fun i i0 i1 => ?_, ⟨?_, by omega⟩, shL, lLS⟩
    · rw [F3 238 (by omega) (by omega)]
      exact prI.2.1
    · rw [F3 239 (by omega) (by omega)]
      exact st239
    · rw [F3 242 (by omega) (by omega)]
      exact rL.1
    · rw [F3 242 (by omega) (by omega)]
      exact prL.2.1
    · rw [F3 243 (by omega) (by omega), F3 244 (by omega) (by omega)]
      have a1 := prL.2.2.1 i.toNat (by omega)
      have a2 := prL.2.2.2 i.toNat (by omega)
      rw [show ((i.toNat : Nat) : Int) = i by omega] at a1 a2
      exact ⟨a1, a2⟩
    · rw [F3 245 (by omega) (by omega)]
      exact rL.2
  refine ⟨by omega, fun _ => ?_, fun q => by omega⟩
  refine areListings_Y hL3 (fun M4 z F4 hz => ?_)
  have FF4 : fmF M M4 := ⟨fun c c1 c2 c3 => (F4.1 c c1).trans (FF3.1 c c1 c2 c3), fun i hi => (F4.2 i (by omega)).trans (FF3.2 i hi)⟩
  rcases hz.symm with ⟨z1, z2⟩ | ⟨z1, ls⟩
  · have n6 : ¬ fq6 f := z2
    rw [z1]
    rw [cif_neg n6] at k
    exact ⟨by omega, fun q => absurd rfl q, fun _ => k M4 FF4 (fun q => absurd q.2.2.2.2.2.1 n6)⟩
  have h6 : fq6 f := ls
  rw [z1]
  rw [cif_pos h6] at k
  have hL4 := mlC_to hL3 F4
  have e96 : M4 168 96 = s64 (le f 32 8) := by
    rw [F4.2 96 (by omega), e168]
    exact d96
  have rr32 := s64_r (le f 32 8)
  refine ⟨by omega, fun _ => ?_, fun q => by omega⟩
  refine isTree_Y hL4 ls (by rw [e96]; exact rr32) (fun M5 y r F5 hnb e119 hy => ?_)
  rw [e96] at hnb
  have er := rof_is shI hnb
  have FF5 : fmF M M5 := ⟨fun c c1 c2 c3 => (F5.1 c c1 (by omega) (by omega)).trans (FF4.1 c c1 c2 c3), fun i hi => (F5.2 i (by omega)).trans (FF4.2 i hi)⟩
  rcases hy.symm with ⟨y1, y2⟩ | ⟨y1, y2⟩
  · have n7 : ¬ fq7 f := by
      intro q
      unfold fq7 at q
      rw [er] at q
      exact y2 q
    rw [y1]
    rw [cif_neg n7] at k
    exact ⟨by omega, fun q => absurd rfl q, fun _ => k M5 FF5 (fun q => absurd q.2.2.2.2.2.2.1 n7)⟩
  have h7 : fq7 f := by
    unfold fq7
    rw [er]
    exact y2
  rw [y1]
  rw [cif_pos h7] at k
  have h85 : s8M M5 (rwR (qI f)) (rwS (qI f)) (rwR (qL f)) (rwS (qL f)) (le f 12 4) (le f 26 2) (le f 16 4) (le f 4 4) (plf f) (hf f) f (lf (rwR (qF f))) s (s64 (le f 64 8)) := by
    refine ⟨mlC_tt hL4 F5, ?_, ⟨?_, by omega⟩, fun z => ?_, h4⟩
    · rw [F5.2 98 (by omega), F4.2 98 (by omega), e168]
      exact d98
    · rw [FF5.1 211 (by omega) (by omega) (by omega), gf]
      exact fun _ _ _ => rfl
    · rw [F5.1 249 (by omega) (by omega) (by omega), F4.1 249 (by omega), F3 249 (by omega) (by omega)]
      exact rowF z
  refine ⟨by omega, fun _ => ?_, fun q => by omega⟩
  refine areData_Y h85 (fun M6 F6 no => ?_) (fun M6 F6 yes fs => ?_)
  · have n8 : ¬ fq8 f := no
    rw [cif_neg n8] at k
    exact ⟨by omega, fun _ => k M6 ⟨fun c c1 c2 c3 => (F6.1 c c1 c2 (by omega) (by omega)).trans (FF5.1 c c1 c2 c3), fun i hi => (F6.2 i (by omega) (by omega)).trans (FF5.2 i hi)⟩ (fun q => absurd q.2.2.2.2.2.2.2 n8), fun q => absurd rfl q⟩
  have h8 : fq8 f := yes
  rw [cif_pos h8] at k
  refine ⟨by omega, fun q => by omega, fun _ => k M6 ⟨fun c c1 c2 c3 => (F6.1 c c1 c2 (by omega) (by omega)).trans (FF5.1 c c1 c2 c3), fun i hi => (F6.2 i (by omega) (by omega)).trans (FF5.2 i hi)⟩ (fun _ => ⟨s8M_to h85 F6, ?_, ?_, fs⟩)⟩
  · have rD := rrV_row prD
    rw [lD] at rD
    rw [F6.1 257 (by omega) (by omega) (by omega) (by omega), F5.1 257 (by omega) (by omega) (by omega), F4.1 257 (by omega), F3 257 (by omega) (by omega)]
    exact rD.2
  · rw [F6.2 119 (by omega) (by omega), er]
    exact e119
end MFAULT
