/-! QUERIES: about; the reference, and the call -/
def abF (M M2 : FM) : Prop := (∀ c : Nat, c ≠ 168 → M2 c = M c) ∧ ∀ i : Int, (i < 111 ∨ 118 < i ∧ i < 124 ∨ 129 < i) → M2 168 i = M 168 i
section MABOUT
variable {d nx zl : Nat} {K : Option TV → FH → Prop} {sh : Nat → Option Shp} {M : FM} {IR IS LR LS : List Int} {B ids F n s A r : Int} {pl h f fg dg ea : Int → Int}
theorem parentNumber_Y {j : Int} (hL : mlC M IR IS LR LS B ids F n pl h) (e19 : M 168 119 = r) (hr : 0 ≤ r ∧ r ≤ n) (hj : 1 ≤ j ∧ j ≤ n) (hk : kdT (le (lf IR) (pl j) 2) = 1) (k : K (some (ti (if j = r then r else paF (lf IR) pl j))) (sh, M, nx, zl)) : fm_Y (d + 4) 380 [.ref 168, .int (Int32.ofInt j)] (sh, M, nx, zl) K := by
  have nr := hL.1.2.1
  refine m380 [fx 168, ti j] ?_
  refine ⟨by omega, fun w => ?_, fun w => ?_⟩
  · rw [if_neg (by omega)] at k
    exact parentOf_Y hL hj hk (fun _ => k)
  · have e : j = r := by omega
    rw [if_pos e, ← e] at k
    exact k
theorem entriesOf_Y {j : Int} (hL : mlC M IR IS LR LS B ids F n pl h) (hj : 1 ≤ j ∧ j ≤ n) (hA : kdT (le (lf IR) (pl j) 2) = 1 → liX IR IS LR LS h (pl j)) (k : ∀ M2 : FM, moF M M2 → K (some (tj (if kdT (le (lf IR) (pl j) 2) = 1 then ((lsE IR IS LR LS h (pl j)).length : Int) else 0))) (sh, M2, nx, zl)) : fm_Y (d + 6) 392 [.ref 168, .int (Int32.ofInt j)] (sh, M, nx, zl) K := by
  have lr := hL.2.2.2.2.2.1.2
  have hs := hL.2.2.2.2.2.2.1
  refine m392 [fx 168, ti j] ?_
  refine isDirectory_Y hL hj (fun z hz => ?_)
  rcases hz.symm with ⟨z1, z2⟩ | ⟨z1, z2⟩
  · rw [z1]
    refine ⟨by omega, fun _ => ?_, fun q => absurd rfl q⟩
    refine s392_25 (d + 5) K _ _ _ ?_
    refine ⟨by omega, fun _ => ?_, fun q => absurd rfl q⟩
    have T := k M (mo_refl M)
    rw [if_neg z2] at T
    exact T
  rw [z1]
  refine ⟨by omega, fun q => by omega, fun _ => ?_⟩
  obtain ⟨E, b, e, li⟩ := hA z2
  have eE := lsE_eq hs li
  rw [if_pos z2, eE] at k
  have er := opP_r hs li.1
  refine openListing_Y hL hj z2 (fun M2 F2 no => absurd li.1 (no b e)) (fun M2 b2 e2 F2 op v => ?_)
  obtain ⟨x1, x2⟩ := opP_one hs li.1 op
  rw [x1, x2] at v
  obtain ⟨v11, v12, v16, v17⟩ := v
  refine ⟨by omega, fun q => by omega, fun _ => ?_⟩
  have L : ∀ (E2 : List (Int × Int)) (m : Int) (a l hd : Int) (M1 : FM), m + E2.length = E.length → 0 ≤ m → moF M M1 → (M1 168 112 = e ∧ M1 168 116 = a ∧ M1 168 117 = l) → (l ≠ 0 → M1 168 118 = hd ∧ 0 ≤ hd ∧ hd + 12 ≤ e) → 0 ≤ a → (0 ≤ l ∧ l ≤ 256) → wkL IS (lf LR) e a l hd E2 → fm_X (d + 5) kd392 25 [some (fx 168), some (ti j), some (tj m), none, some (ti 1)] [] (sh, M1, nx, zl) K := by
    intro E2
    induction E2 with
    | nil =>
      intro m a l hd M1 q1 q2 F1 hm h18 ha hl hE
      have ee := hE.1
      refine s392_25 (d + 5) K _ _ _ ?_
      refine ⟨by omega, fun q => by omega, fun _ => ?_⟩
      refine nextEnd_Y (a := a) (by omega) (by omega) (by omega) ?_
      refine ⟨by omega, fun _ => ?_, fun q => absurd rfl q⟩
      have T := k M1 F1
      simp only [List.length_nil] at q1
      rw [show ((E.length : Nat) : Int) = m by omega] at T
      exact T
    | cons q E2 ih =>
      intro m a l hd M1 q1 q2 F1 hm h18 ha hl hE
      obtain ⟨hd2, a2⟩ := q
      obtain ⟨l2, n1, n2, n3⟩ := hE
      dsimp only at n1 n2 n3
      have l6 := le_nn (lf LR) 2 (a2 + 6)
      have z3 := le_nn (lf LR) 4 a
      have E1 := n2.1
      have hda : (0 ≤ hd2 ∧ hd2 + 12 ≤ e) ∧ a ≤ a2 ∧ (1 ≤ l2 ∧ l2 ≤ 256) := by
        rcases n1 with z | z
        · have := h18 z.1
          omega
        · have z1 := z.2.1.1
          have z2 := z.2.1.2.1
          omega
      refine s392_25 (d + 5) K _ _ _ ?_
      refine ⟨by omega, fun q => by omega, fun _ => ?_⟩
      refine nextEntry_Y (mlC_to hL F1) hm.1 hm.2.1 hm.2.2 h18 ha (by omega) hl n1 n2 (fun M3 F3 t1 t2 t3 => ?_)
      refine ⟨by omega, fun q => by omega, fun _ => ?_⟩
      simp only [List.length_cons] at q1
      exact ih (m + 1) (a2 + 9 + le (lf LR) (a2 + 6) 2) (l2 - 1) hd2 M3 (by omega) (by omega) (mo_trans F1 F3) ⟨t1.2, t3.1, t3.2.1⟩ (fun _ => ⟨t3.2.2, hda.1⟩) (by omega) (by omega) n3
  exact L E 0 b 0 0 M2 (by omega) (by omega) F2 ⟨v12, v16, v17⟩ (fun q => absurd rfl q) (by omega) (by omega) li.2.1.1
theorem mabout_Y {M0 : FM} {j w : Int} (hi : -2147483648 ≤ j ∧ j ≤ 2147483647) (hw : -2147483648 ≤ w ∧ w ≤ 2147483647) (hV : VV KC WW M0) (e91 : M 168 91 = M0 168 91) (e92 : M 168 92 = M0 168 92)
    (h8 : inq M0 j → mlC M IR IS LR LS B ids F n pl h ∧ j ≤ n ∧ agr (M 257) dg (4 * ids) ∧ (0 ≤ ids ∧ ids ≤ 4096) ∧ M 168 119 = r ∧ (0 ≤ r ∧ r ≤ n) ∧ (kdT (le (lf IR) (pl j) 2) = 1 → liX IR IS LR LS h (pl j)) ∧ ea j = (if kdT (le (lf IR) (pl j) 2) = 1 then ((lsE IR IS LR LS h (pl j)).length : Int) else 0) ∧ (kdT (le (lf IR) (pl j) 2) = 1 → j ≠ r → 0 ≤ paF (lf IR) pl j ∧ paF (lf IR) pl j ≤ n))
    (k0 : ¬ inq M0 j → K (some (tj (-1))) (sh, M, nx, zl))
    (k1 : inq M0 j → ∀ M2 : FM, abF M M2 → K (some (tj (abV (lf IR) dg B (pl j) r (paF (lf IR) pl j) (ea j) j w))) (sh, M2, nx, zl)) : fm_Y (d + 7) 391 [.ref 168, .int (Int32.ofInt j), .int (Int32.ofInt w)] (sh, M, nx, zl) K := by
  refine m391 [fx 168, ti j, ti w] ?_
  refine isInode_Y hi hV e91 e92 (fun z hz => ?_)
  rcases hz.symm with ⟨z1, z2⟩ | ⟨z1, z2⟩
  · rw [z1]
    exact ⟨by omega, fun _ => k0 z2, fun q => absurd rfl q⟩
  rw [z1]
  obtain ⟨hL, jn, hD, hids, e19, hr, hA, hea, hpa⟩ := h8 z2
  have j1 := z2.2.1
  have kk := k1 z2
  have OUT : (w < 0 ∨ 11 < w) → K (some (tj (-1))) (sh, M, nx, zl) := by
    intro q
    have T := kk M ⟨fun _ _ => rfl, fun _ _ => rfl⟩
    have e : abV (lf IR) dg B (pl j) r (paF (lf IR) pl j) (ea j) j w = -1 := by
      unfold abV
      rw [if_neg (by omega), if_neg (by omega), if_neg (by omega), if_neg (by omega), if_neg (by omega), if_neg (by omega), if_neg (by omega), if_neg (by omega), if_neg (by omega), if_neg (by omega), if_neg (by omega), if_neg (by omega)]
    rw [e] at T
    exact T
  refine ⟨by omega, fun q => by omega, fun _ => ?_⟩
  refine ⟨by omega, fun v => OUT (Or.inl v), fun v => ?_⟩
  refine ⟨by omega, fun v2 => ?_, fun v2 => OUT (Or.inr (by omega))⟩
  have nr := hL.1.2.1
  have hB := hL.1.1.2.1
  have n65 := hL.1.1.1.2.2.2
  have hv := hL.2.1
  obtain ⟨ap, hd0⟩ := nd_ok hB.2.1 hv j1 jn
  have hT := hd0.2.1
  have h16 := hd0.1
  have hf := hd0.2.2.1
  have hu1 := hd0.2.2.2.2.1
  have hu2 := hd0.2.2.2.2.2
  have fg2 := fx_ge hT
  have kr : 1 ≤ kdT (le (lf IR) (pl j) 2) ∧ kdT (le (lf IR) (pl j) 2) ≤ 7 := by
    unfold kdT
    split <;> omega
  refine whereIs_Y hL ⟨j1, jn⟩ ?_
  refine kindAt_Y hL.1.1 (by omega) hT ?_
  have hD8 := (rr254 sh).1.2.1
  -- behind the opening
  have B58 : ∀ (M1 : FM) (y5 : Int), oF8 M M1 → (y5 = 1 ∧ kdT (le (lf IR) (pl j) 2) = 2 ∧ ofV M1 (lf IR) B (pl j) ∨ y5 = 0 ∧ kdT (le (lf IR) (pl j) 2) ≠ 2) → b391_58 (d + 6) (fW (d + 6) kd391 K) K [some (fx 168), some (ti j), some (ti w), some (ti (pl j)), some (ti (kdT (le (lf IR) (pl j) 2))), some (ti y5)] [] (sh, M1, nx, zl) := by
    intro M1 y5 F1 hy
    have hL1 := mlC_88 hL (m8_of F1)
    have k := kk M1 ⟨F1.1, fun i hi => F1.2 i (by omega)⟩
    refine ⟨hw, fun c => ?_, fun c0 => ⟨fun c => ?_, fun c1 => ⟨fun c => ?_, fun c2 => ⟨fun c => ?_, fun c3 => ⟨fun c => ?_, fun c4 => ⟨fun c => ?_, fun c5 => ⟨fun c => ?_, fun c6 => ⟨fun c => ?_, fun c7 => ⟨fun c => ?_, fun c8 => ⟨fun c => ?_, fun c9 => ⟨fun c => ?_, fun c10 => ?_⟩⟩⟩⟩⟩⟩⟩⟩⟩⟩⟩
    · replace c : w = 0 := c
      rw [c] at k
      exact ⟨by omega, k⟩
    · replace c : w = 1 := c
      rw [c] at k
      exact v2_Y (pl j + 2) hL1.1.1 rfl (by omega) (fun _ => k)
    · replace c : w = 2 := c
      rw [c] at k
      refine m378 [fx 168, ti (pl j + 4)] ?_
      refine v2_Y (pl j + 4) hL1.1.1 rfl (by omega) (fun l => ?_)
      exact n4_Y hD8 (by omega) (by rw [F1.1 257 (by omega)]; exact hD) (by omega) (by omega) (fun _ => k)
    · replace c : w = 3 := c
      rw [c] at k
      refine m378 [fx 168, ti (pl j + 6)] ?_
      refine v2_Y (pl j + 6) hL1.1.1 rfl (by omega) (fun l => ?_)
      exact n4_Y hD8 (by omega) (by rw [F1.1 257 (by omega)]; exact hD) (by omega) (by omega) (fun _ => k)
    · replace c : w = 4 := c
      rw [c] at k
      exact v4_Y (pl j + 8) hL1.1.1 rfl (by omega) (fun _ => k)
    · replace c : w = 5 := c
      rw [c] at k
      have k' : K (some (tj (if kdT (le (lf IR) (pl j) 2) = 2 then fSz (lf IR) (pl j) else if kdT (le (lf IR) (pl j) 2) = 3 then le (lf IR) (pl j + 20) 4 else 0))) (sh, M1, nx, zl) := k
      rcases hy.symm with ⟨y1, y2⟩ | ⟨y1, y2, y3⟩
      · rw [y1]
        rw [if_neg y2] at k'
        refine ⟨by omega, fun _ => ?_, fun q => absurd rfl q⟩
        refine ⟨by omega, fun v2 => ?_, fun v2 => ?_⟩
        · rw [if_neg v2] at k'
          exact k'
        · rw [if_pos v2] at k'
          obtain ⟨l1, l2, l3⟩ := lk_ok hB.2.1 hv j1 jn v2
          exact v4_Y (pl j + 20) hL1.1.1 rfl (by omega) (fun _ => k')
      · rw [y1]
        rw [if_pos y2, ← y3.1.1] at k'
        exact ⟨by omega, fun q => by omega, fun _ => k'⟩
    · replace c : w = 6 := c
      rw [c] at k
      exact linksOf_Y hL1 ⟨j1, jn⟩ (fun _ => k)
    · replace c : w = 7 := c
      rw [c] at k
      have k' : K (some (tj (if kdT (le (lf IR) (pl j) 2) = 4 ∨ kdT (le (lf IR) (pl j) 2) = 5 then le (lf IR) (pl j + 20) 4 else 0))) (sh, M1, nx, zl) := k
      have B206 : (kdT (le (lf IR) (pl j) 2) = 4 ∨ kdT (le (lf IR) (pl j) 2) = 5) → b391_206 (d + 6) (fW (d + 6) kd391 K) K [some (fx 168), some (ti j), some (ti w), some (ti (pl j)), some (ti (kdT (le (lf IR) (pl j) 2))), some (ti y5)] [] (sh, M1, nx, zl) := by
        intro hd
        rw [if_pos hd] at k'
        have h24 : pl j + 24 ≤ IR.length := by
          have : 24 ≤ fxT (le (lf IR) (pl j) 2) := by
            unfold kdT at hd
            unfold fxT
            split at hd
            · repeat' split
              all_goals omega
            · repeat' split
              all_goals omega
          omega
        exact v4_Y (pl j + 20) hL1.1.1 rfl (by omega) (fun _ => k')
      refine ⟨by omega, fun v => B206 (Or.inl v), fun v => ?_⟩
      refine ⟨by omega, fun v2 => ?_, fun v2 => B206 (Or.inr v2)⟩
      rw [if_neg (by omega)] at k'
      exact k'
    · replace c : w = 8 := c
      rw [c] at k
      have k' : K (some (tj (if kdT (le (lf IR) (pl j) 2) = 1 then (if j = r then r else paF (lf IR) pl j) else 0))) (sh, M1, nx, zl) := k
      refine ⟨by omega, fun v => ?_, fun v => ?_⟩
      · rw [if_neg v] at k'
        exact k'
      · rw [if_pos v] at k'
        refine parentNumber_Y hL1 ((F1.2 119 (by omega)).trans e19) hr ⟨j1, jn⟩ v ?_
        refine ⟨?_, k'⟩
        by_cases c2 : j = r
        · rw [if_pos c2]
          omega
        · rw [if_neg c2]
          have := hpa v c2
          omega
    · replace c : w = 9 := c
      refine entriesOf_Y hL1 ⟨j1, jn⟩ hA (fun M2 F2 => ?_)
      have T := kk M2 ⟨fun c hc => (F2.1 c hc).trans (F1.1 c hc), fun i hi => (F2.2 i (by omega)).trans (F1.2 i (by omega))⟩
      rw [c] at T
      have T' : K (some (tj (ea j))) (sh, M2, nx, zl) := T
      rw [hea] at T'
      exact T'
    · replace c : w = 10 := c
      rw [c] at k
      have k' : K (some (tj (if kdT (le (lf IR) (pl j) 2) = 2 then bkC B (lf IR) (pl j) else 0))) (sh, M1, nx, zl) := k
      rcases hy.symm with ⟨y1, y2⟩ | ⟨y1, y2, y3⟩
      · rw [y1]
        rw [if_neg y2] at k'
        exact ⟨by omega, fun _ => k', fun q => absurd rfl q⟩
      · rw [y1]
        obtain ⟨f1, f2, f3⟩ := fl_ok hB.2.1 hv j1 jn y2
        have f4 := f1.2.2.1
        have b0 := bk_r (B := B) hB.2.1 f1.1.1
        have eb : bkC B (lf IR) (pl j) = bcN B (fSz (lf IR) (pl j)) (fFr (lf IR) (pl j)) := rfl
        have o8 := y3.2.1
        rw [if_pos y2, ← o8] at k'
        refine ⟨by omega, fun q => by omega, fun _ => ?_⟩
        exact ⟨by omega, k'⟩
    · have e : abV (lf IR) dg B (pl j) r (paF (lf IR) pl j) (ea j) j w = le (lf IR) (pl j) 2 := by
        replace c0 : w ≠ 0 := c0
        replace c1 : w ≠ 1 := c1
        replace c2 : w ≠ 2 := c2
        replace c3 : w ≠ 3 := c3
        replace c4 : w ≠ 4 := c4
        replace c5 : w ≠ 5 := c5
        replace c6 : w ≠ 6 := c6
        replace c7 : w ≠ 7 := c7
        replace c8 : w ≠ 8 := c8
        replace c9 : w ≠ 9 := c9
        replace c10 : w ≠ 10 := c10
        unfold abV
        rw [if_neg c0, if_neg c1, if_neg c2, if_neg c3, if_neg c4, if_neg c5, if_neg c6, if_neg c7, if_neg c8, if_neg c9, if_neg c10, if_pos (by omega)]
      rw [e] at k
      refine typeAt_Y hL1.1.1 (by omega) (fun l => ?_)
      exact ⟨by omega, k⟩
  refine ⟨by omega, fun v3 => ?_, fun v3 => ?_⟩
  · exact ⟨by omega, fun _ => B58 M 0 (of_refl M) (Or.inr ⟨rfl, v3⟩), fun q => absurd rfl q⟩
  · refine ⟨by omega, fun q => by omega, fun _ => ?_⟩
    exact openFile_Y hL ⟨j1, jn⟩ v3 (fun M1 F1 ov => B58 M1 1 F1 (Or.inl ⟨rfl, v3, ov⟩))
end MABOUT
/-- what a mounted inode's number gives -/
theorem inq_W {M : FM} {j : Int} {f : Int → Int} {s : Int} (hV : VV KC WW M) (gf : f = M 211) (gs : s = M 168 59) (q : inq M j) : ftO f s ∧ mtC M f s ∧ mtM M f s ∧ (1 ≤ j ∧ j ≤ le f 4 4) := by
  obtain ⟨w1, w2, w3⟩ := hV.2.2.2.1 q.1
  rw [← gf, ← gs] at w1 w2 w3
  have n2 := w3.1.1.1.2.1
  have q2 := q.2
  exact ⟨w1, w2, w3, by omega⟩
theorem ro_r {f : Int → Int} {s : Int} (hs : s ≤ 131072) (hO : ftO f s) : 1 ≤ rof f ∧ rof f ≤ le f 4 4 := by
  obtain ⟨hsu, hpl, hrw, h4, h5, h6, h7, h8⟩ := hO
  obtain ⟨⟨shI, -, -⟩, -⟩ := rows_r hs hsu hpl hrw
  obtain ⟨⟨-, sB, sB2⟩, sn, sF, -, sA⟩ := su_B hsu
  have hv := inS_V sB (Int.natCast_nonneg _) (by omega) h5.1
  have ne := h7.1.1
  by_cases c : ∃ y : Int, fl (rwS (qI f)) (rwR (qI f)).length (s64 (le f 32 8) % 18446744073709551616 / 65536) (s64 (le f 32 8) % 65536) y
  · obtain ⟨y, hy⟩ := c
    have e := rof_is shI (Or.inl ⟨y, hy, rfl⟩)
    rw [e] at ne ⊢
    exact (hv.2 y ne).2.1
  · have e := rof_is (f := f) (r := 0) shI (Or.inr ⟨fun y hy => c ⟨y, hy⟩, rfl⟩)
    exact absurd e ne
section CABOUT
variable {L d : Nat} {xs : Nat → Int32}
theorem call_about {j w : Int} (hj : -2147483648 ≤ j ∧ j ≤ 2147483647) (hw : -2147483648 ≤ w ∧ w ≤ 2147483647) : ca_J (VV KC WW) L xs (d + 8) 228 391 [.int (Int32.ofInt j), .int (Int32.ofInt w)] := by
  intro k H hR
  obtain ⟨sh, M, nx, zl⟩ := H
  have hV : VV KC WW M := hR.2.2.2.2
  have hO : outR M := hR.2.2.1
  obtain ⟨f, gf⟩ : ∃ f : Int → Int, f = M 211 := ⟨_, rfl⟩
  obtain ⟨s, gs⟩ : ∃ s : Int, s = M 168 59 := ⟨_, rfl⟩
  have W : inq M j → ftO f s ∧ mtC M f s ∧ mtM M f s ∧ (1 ≤ j ∧ j ≤ le f 4 4) := inq_W hV gf gs
  have MP : ∀ (v : Int), (¬ inq M j → v = -1) → (inq M j → v = abV (lf (rwR (qI f))) (lf (rwR (qD f))) (le f 12 4) (plf f j) (rof f) (paF (lf (rwR (qI f))) (plf f) j) (eaQ f j) j w) → fm_Y (d + 8) 391 [.ref 168, .int (Int32.ofInt j), .int (Int32.ofInt w)] (sh, M, nx, zl) (fun w2 H2 => w2 = some (tj v) ∧ RR (VV KC WW) L xs (k + 1) H2) := by
    intro v v0 v1
    refine mabout_Y (d := d + 1) (IR := rwR (qI f)) (IS := rwS (qI f)) (LR := rwR (qL f)) (LS := rwS (qL f)) (B := le f 12 4) (ids := le f 26 2) (F := le f 16 4) (n := le f 4 4) (pl := plf f) (h := hf f) (dg := lf (rwR (qD f))) (r := rof f) (ea := eaQ f) hj hw hV rfl rfl (fun q => ?_) (fun no => ⟨by rw [v0 no], RR_next hR⟩) (fun q1 M2 F2 => ⟨by rw [v1 q1], ?_⟩)
    · obtain ⟨w1, w2, w3, jr⟩ := W q
      have s1 := w3.1.2.2.1.2
      have rr := ro_r s1.2.2 w1
      obtain ⟨hsu, hpl, hrw, h4, h5, h6, h7, h8⟩ := id w1
      obtain ⟨-, sn, sF, sI, -⟩ := su_B hsu
      refine ⟨w3.1.1, jr.2, w3.2.1, by omega, w3.2.2.1, by omega, fun q => h6 j jr.1 jr.2 q, ?_, fun q1 q2 => pa_r w1 jr.1 jr.2 q1 q2⟩
      unfold eaQ
      rw [eaA_at]
      by_cases c : kdT (le (lf (rwR (qI f))) (plf f j) 2) = 1
      · rw [if_pos c, if_pos ⟨jr.1, by omega, c⟩]
        rfl
      · rw [if_neg c, if_neg (fun z => c z.2.2)]
    · exact RR_q hR (fun c hc => F2.1 c (by omega)) (fun i hi _ => F2.2 i (by omega)) (F2.1 3 (by omega)) ⟨fun c hc => F2.1 c (by omega), fun i hi => F2.2 i (by omega)⟩ (outR_to hO (F2.1 6 (by omega)) (F2.1 7 (by omega)) (F2.1 170 (by omega)) (F2.2 4 (by omega)))
  refine m228 [fx 3, ti j, ti w] ?_
  refine has_Y hj hV (fun z hz => ?_)
  rcases hz.symm with ⟨z1, z2⟩ | ⟨z1, z2⟩
  · rw [z1]
    exact ⟨by omega, fun _ => ⟨-1, rfl, ⟨rfl, rfl⟩, MP (-1) (fun _ => rfl) (fun q => absurd q z2)⟩, fun q => absurd rfl q⟩
  rw [z1]
  obtain ⟨w1, w2, w3, jr⟩ := W z2
  have s1 := w3.1.2.2.1.2
  have rr := ro_r s1.2.2 w1
  obtain ⟨-, sn, sF, sI, -⟩ := su_B w1.1
  refine ⟨by omega, fun q => by omega, fun _ => ?_⟩
  refine tell_Y w2.1 w2.2.1 (by omega) w2.2.2.1 (by omega) w2.2.2.2.1 (ea_r s1.2.2 w1 jr.1 jr.2) jr (fun q1 q2 => pa_r w1 jr.1 jr.2 q1 q2) hw ?_
  exact ⟨_, rfl, ⟨rfl, rfl⟩, MP _ (fun no => absurd z2 no) (fun _ => rfl)⟩
end CABOUT
