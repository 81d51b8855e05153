/-! QUERIES: place -/
noncomputable def plcS (g fg : Int → Int) (B p : Int) : Int := cif (∃ i : Int, 0 ≤ i ∧ i < bkC B g p ∧ blN g p i ≠ 0) (fBg g p) (if fFr g p = 4294967295 then 0 else s64 (le fg (16 * fFr g p) 8))
section PLACE
variable {d nx zl : Nat} {K : Option TV → FH → Prop} {sh : Nat → Option Shp} {M : FM} {IR IS LR LS : List Int} {B ids F n s A : Int} {pl h f fg : Int → Int}
theorem placeOfData_Y {j : Int} (h8 : s8C M IR IS LR LS B ids F n pl h f fg s A) (hj : 1 ≤ j ∧ j ≤ n) (hk : kdT (le (lf IR) (pl j) 2) = 2) (k : K (some (ti (plcS (lf IR) fg B (pl j)))) (sh, M, nx, zl)) : fm_Y (d + 4) 234 [.ref 97, .int (Int32.ofInt j)] (sh, M, nx, zl) K := by
  obtain ⟨hL, ⟨b9, b10, b11, b15⟩, ⟨c1, c2, c3⟩, a4, a5⟩ := id h8
  have hB := hL.1.1.2.1
  have n65 := hL.1.1.1.2.2.2
  have Fr := a4.1
  have hv := hL.2.1
  obtain ⟨ap, hd0⟩ := nd_ok hB.2.1 hv hj.1 hj.2
  have hT := hd0.2.1
  obtain ⟨f1, f2, f3⟩ := fl_ok hB.2.1 hv hj.1 hj.2 hk
  refine m234 [fx 97, ti j] ?_
  refine placeC_Y hL hj ?_
  obtain ⟨p, gp⟩ : ∃ p : Int, p = pl j := ⟨_, rfl⟩
  rw [← gp] at k ap hd0 hT f1 f2 f3 hk ⊢
  have f4 := f1.2.2.1
  have f6 := f1.2.1
  have fz := f1.1
  have f5 := f1.2.2.2
  have b0 := bk_r (B := B) hB.2.1 fz.1
  have eb : bkC B (lf IR) p = bcN B (fSz (lf IR) p) (fFr (lf IR) p) := rfl
  rw [← eb] at f4 f5
  have L : ∀ (G : Nat) (i : Int), (bkC B (lf IR) p - i).toNat < G → 0 ≤ i → i ≤ bkC B (lf IR) p → (∀ q : Int, 0 ≤ q → q < i → blN (lf IR) p q = 0) → fm_X (d + 3) kd234 11 [some (fx 97), some (ti j), some (ti p), some (ti i)] [] (sh, M, nx, zl) K := by
    intro G
    induction G with
    | zero => intro i q; omega
    | succ G ih =>
      intro i q1 q2 q3 q4
      refine s234_11 (d + 3) K _ _ _ ?_
      refine ⟨by omega, ?_⟩
      refine blockCount_Y hL.1.1 (by omega) hT fz.1 ?_
      rw [← eb]
      refine ⟨by omega, fun w => ?_, fun w => ?_⟩
      · have ei : i = bkC B (lf IR) p := by omega
        have e : plcS (lf IR) fg B p = if fFr (lf IR) p = 4294967295 then 0 else s64 (le fg (16 * fFr (lf IR) p) 8) := cif_neg (fun z => by
          obtain ⟨x, x0, x1, x2⟩ := z
          exact x2 (q4 x x0 (by omega)))
        rw [e] at k
        refine fragment_Y hL.1.1 (by omega) hT (fun x x1 x2 x3 => ?_)
        refine ⟨by omega, fun w1 => ?_, fun w1 => ?_⟩
        · have g1 := f6 (by omega)
          have ex : x = fFr (lf IR) p := by omega
          rw [if_neg (by omega)] at k
          obtain ⟨r1, r2⟩ := a4.2.1 (by omega)
          refine g8_Y (pr117 sh).1.2.1 r1 r2 (by omega) (by omega) (fun b8 => ?_)
          rw [ex]
          exact k
        · rw [if_pos (by omega)] at k
          exact k
      · have bp := f5 i q2 (by omega)
        have en : blN (lf IR) p i = le (lf IR) (p + fxT (le (lf IR) p 2) + 4 * i) 4 := rfl
        refine blockNumber_Y hL.1.1 (by omega) hT (by omega) (fun x x1 x2 x3 => ?_)
        rw [← en] at bp x1 x3
        have bp1 := bp.1
        have ex : x = blN (lf IR) p i := by omega
        refine ⟨by omega, fun w1 => ?_, fun w1 => ?_⟩
        · refine ih (i + 1) (by omega) (by omega) (by omega) (fun q q0 q1 => ?_)
          by_cases c : q < i
          · exact q4 q q0 c
          · rw [show q = i by omega]
            omega
        · have e : plcS (lf IR) fg B p = fBg (lf IR) p := cif_pos ⟨i, q2, by omega, by omega⟩
          rw [e] at k
          exact fileBegin_Y hL.1.1 (by omega) hT (fun _ => k)
  exact L _ 0 (Nat.lt_succ_self _) (by omega) (by omega) (fun q q0 q1 => by omega)
theorem mplace_Y {M0 : FM} {j : Int} (hi : -2147483648 ≤ j ∧ j ≤ 2147483647) (hV : VV KC WW M0) (e91 : M 168 91 = M0 168 91) (e92 : M 168 92 = M0 168 92) (h8 : inq M0 j → s8M M IR IS LR LS B ids F n pl h f fg s A ∧ j ≤ n)
    (k0 : ¬ (inq M0 j ∧ kdT (le (lf IR) (pl j) 2) = 2) → K (some (ti (-1))) (sh, M, nx, zl))
    (k1 : inq M0 j → kdT (le (lf IR) (pl j) 2) = 2 → ∀ M2 : FM, oF8 M M2 → K (some (ti (plcS (lf IR) fg B (pl j)))) (sh, M2, nx, zl)) : fm_Y (d + 6) 397 [.ref 168, .int (Int32.ofInt j)] (sh, M, nx, zl) K := by
  refine m397 [fx 168, ti j] ?_
  refine isInode_Y hi hV e91 e92 (fun z hz => ?_)
  rcases hz.symm with ⟨z1, z2⟩ | ⟨z1, z2⟩
  · rw [z1]
    exact ⟨by omega, fun _ => k0 (fun q => z2 q.1), fun q => absurd rfl q⟩
  rw [z1]
  obtain ⟨g8, jn⟩ := h8 z2
  have j1 := z2.2.1
  obtain ⟨hL, c98, ⟨c2, c3⟩, a4⟩ := id g8
  have hB := hL.1.1.2.1
  have n65 := hL.1.1.1.2.2.2
  have Fr := hL.1.1.2.2.1
  have hv := hL.2.1
  obtain ⟨ap, hd0⟩ := nd_ok hB.2.1 hv j1 jn
  have hT := hd0.2.1
  have h16 := hd0.1
  have kr : 1 ≤ kdT (le (lf IR) (pl j) 2) ∧ kdT (le (lf IR) (pl j) 2) ≤ 7 := by
    unfold kdT
    split <;> omega
  refine ⟨by omega, fun q => by omega, fun _ => ?_⟩
  refine whereIs_Y hL ⟨j1, jn⟩ ?_
  refine kindAt_Y hL.1.1 (by omega) hT ?_
  refine ⟨by omega, fun w => ?_, fun w => k0 (fun q => w q.2)⟩
  refine openFile_Y hL ⟨j1, jn⟩ w (fun M2 F2 ov => ?_)
  have k := k1 z2 w M2 F2
  have g82 := s8M_to g8 (m8_of F2)
  have hL2 := g82.1
  obtain ⟨f1, f2, f3⟩ := fl_ok hB.2.1 hv j1 jn w
  obtain ⟨p, gp⟩ : ∃ p : Int, p = pl j := ⟨_, rfl⟩
  rw [← gp] at k f1 f2 f3 ov
  have f4 := f1.2.2.1
  have f6 := f1.2.1
  have fz := f1.1
  have f5 := f1.2.2.2
  have b0 := bk_r (B := B) hB.2.1 fz.1
  have eb : bkC B (lf IR) p = bcN B (fSz (lf IR) p) (fFr (lf IR) p) := rfl
  rw [← eb] at f4 f5
  obtain ⟨⟨o4, o5, o6, o7⟩, o8, o9⟩ := id ov
  have fr4 : 0 ≤ fFr (lf IR) p ∧ fFr (lf IR) p < 4294967296 := by
    have q1 := le_nn (lf IR) 4 (p + 20)
    have q2 := le_lt4 (lf IR) (p + 20)
    have q3 := le_nn (lf IR) 4 (p + 44)
    have q4 := le_lt4 (lf IR) (p + 44)
    unfold fFr
    split <;> omega
  have L : ∀ (G : Nat) (i : Int), (bkC B (lf IR) p - i).toNat < G → 0 ≤ i → i ≤ bkC B (lf IR) p → (∀ q : Int, 0 ≤ q → q < i → blN (lf IR) p q = 0) → fm_X (d + 5) kd397 30 [some (fx 168), some (ti j), some (ti i)] [] (sh, M2, nx, zl) K := by
    intro G
    induction G with
    | zero => intro i q; omega
    | succ G ih =>
      intro i q1 q2 q3 q4
      refine s397_30 (d + 5) K _ _ _ ?_
      refine ⟨by omega, fun w1 => ?_, fun w1 => ?_⟩
      · have ei : i = bkC B (lf IR) p := by omega
        have e : plcS (lf IR) fg B p = if fFr (lf IR) p = 4294967295 then 0 else s64 (le fg (16 * fFr (lf IR) p) 8) := cif_neg (fun z => by
          obtain ⟨x, x0, x1, x2⟩ := z
          exact x2 (q4 x x0 (by omega)))
        rw [e] at k
        refine ⟨by omega, fun w2 => ?_, fun w2 => ?_⟩
        · have g1 := f6 (by omega)
          rw [if_neg (by omega)] at k
          have r2 := g82.2.2.2.1 (by omega)
          rw [← o6] at k
          exact n8_Y (rr246 sh).1.2.1 (by omega) r2 (by omega) (by omega) (fun b8 => k)
        · rw [if_pos (by omega)] at k
          exact k
      · have bp := f5 i q2 (by omega)
        have en : blN (lf IR) p i = le (lf IR) (p + fxT (le (lf IR) p 2) + 4 * i) 4 := rfl
        rw [← en] at bp
        have bp1 := bp.1
        refine blockOf_Y hL2 ov (by omega) (by omega) (fun x1 => ?_)
        refine ⟨by omega, fun w2 => ?_, fun w2 => ?_⟩
        · refine ih (i + 1) (by omega) (by omega) (by omega) (fun q q0 q1 => ?_)
          by_cases c : q < i
          · exact q4 q q0 c
          · rw [show q = i by omega]
            exact w2
        · have e : plcS (lf IR) fg B p = fBg (lf IR) p := cif_pos ⟨i, q2, by omega, w2⟩
          rw [e, ← o5] at k
          exact k
  exact L _ 0 (Nat.lt_succ_self _) (by omega) (by omega) (fun q q0 q1 => by omega)
end PLACE
section CPLACE
variable {L d : Nat} {xs : Nat → Int32}
theorem call_place {j : Int} (hj : -2147483648 ≤ j ∧ j ≤ 2147483647) : ca_I (VV KC WW) L xs (d + 7) 233 397 [.int (Int32.ofInt j)] := by
  intro k H hR
  obtain ⟨sh, M, nx, zl⟩ := H
  have hV : VV KC WW M := hR.2.2.2.2
  have hO : outR M := hR.2.2.1
  obtain ⟨f, gf⟩ : ∃ f : Int → Int, f = M 211 := ⟨_, rfl⟩
  obtain ⟨s, gs⟩ : ∃ s : Int, s = M 168 59 := ⟨_, rfl⟩
  have W : inq M j → mtC M f s ∧ mtM M f s ∧ (1 ≤ j ∧ j ≤ le f 4 4) := by
    intro q
    obtain ⟨-, w2, w3⟩ := hV.2.2.2.1 q.1
    rw [← gf, ← gs] at w2 w3
    have n2 := w3.1.1.1.2.1
    have q2 := q.2
    exact ⟨w2, w3, by omega⟩
  have MP : ∀ (v : Int), (¬ (inq M j ∧ kdT (le (lf (rwR (qI f))) (plf f j) 2) = 2) → v = -1) → (inq M j → kdT (le (lf (rwR (qI f))) (plf f j) 2) = 2 → v = plcS (lf (rwR (qI f))) (lf (rwR (qF f))) (le f 12 4) (plf f j)) → fm_Y (d + 7) 397 [.ref 168, .int (Int32.ofInt j)] (sh, M, nx, zl) (fun w2 H2 => w2 = some (ti v) ∧ RR (VV KC WW) L xs (k + 1) H2) := by
    intro v v0 v1
    refine mplace_Y (d := d + 1) hj hV rfl rfl (fun q => ⟨(W q).2.1.1, (W q).2.2.2⟩) (fun no => ⟨by rw [v0 no], RR_next hR⟩) (fun q1 q2 M2 F2 => ⟨by rw [v1 q1 q2], ?_⟩)
    exact RR_q hR (fun c hc => F2.1 c (by omega)) (fun i hi _ => F2.2 i (by omega)) (F2.1 3 (by omega)) ⟨fun c hc => F2.1 c (by omega), fun i hi => F2.2 i (by omega)⟩ (outR_to hO (F2.1 6 (by omega)) (F2.1 7 (by omega)) (F2.1 170 (by omega)) (F2.2 4 (by omega)))
  have BAD : ¬ (inq M j ∧ kdT (le (lf (rwR (qI f))) (plf f j) 2) = 2) → ∃ x : Int, (some (ti (-1)) : Option TV) = some (ti x) ∧ (sh 0 = sh 0 ∧ M 0 = M 0) ∧ fm_Y (d + 7) 397 [.ref 168, .int (Int32.ofInt j)] (sh, M, nx, zl) (fun w2 H2 => w2 = some (ti x) ∧ RR (VV KC WW) L xs (k + 1) H2) := fun no => ⟨-1, rfl, ⟨rfl, rfl⟩, MP (-1) (fun _ => rfl) (fun q1 q2 => absurd ⟨q1, q2⟩ no)⟩
  refine m233 [fx 3, ti j] ?_
  refine has_Y hj hV (fun z hz => ?_)
  rcases hz.symm with ⟨z1, z2⟩ | ⟨z1, z2⟩
  · rw [z1]
    exact ⟨by omega, fun _ => BAD (fun q => z2 q.1), fun q => absurd rfl q⟩
  rw [z1]
  obtain ⟨w2, w3, jr⟩ := W z2
  obtain ⟨-, hd0⟩ := nd_ok w2.1.1.1.1.2.1.2.1 w2.1.1.2.1 jr.1 jr.2
  have hT := hd0.2.1
  have kr : 1 ≤ kdT (le (lf (rwR (qI f))) (plf f j) 2) ∧ kdT (le (lf (rwR (qI f))) (plf f j) 2) ≤ 7 := by
    unfold kdT
    split <;> omega
  refine ⟨by omega, fun q => by omega, fun _ => ?_⟩
  refine kindOf_Y w2.1.1 jr ?_
  refine ⟨by omega, fun w => ?_, fun w => BAD (fun q => w q.2)⟩
  refine placeOfData_Y w2.1 jr w ?_
  exact ⟨_, rfl, ⟨rfl, rfl⟩, MP _ (fun no => absurd ⟨z2, w⟩ no) (fun _ _ => rfl)⟩
end CPLACE
