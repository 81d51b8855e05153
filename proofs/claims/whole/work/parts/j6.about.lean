/-! QUERIES: about -/
def abV (g dg : Int → Int) (B p r pa ea j w : Int) : Int := if w = 0 then kdT (le g p 2) else if w = 1 then le g (p + 2) 2 else if w = 2 then le dg (4 * le g (p + 4) 2) 4 else if w = 3 then le dg (4 * le g (p + 6) 2) 4 else if w = 4 then le g (p + 8) 4 else if w = 5 then (if kdT (le g p 2) = 2 then fSz g p else if kdT (le g p 2) = 3 then le g (p + 20) 4 else 0) else if w = 6 then lnK g p else if w = 7 then (if kdT (le g p 2) = 4 ∨ kdT (le g p 2) = 5 then le g (p + 20) 4 else 0) else if w = 8 then (if kdT (le g p 2) = 1 then (if j = r then r else pa) else 0) else if w = 9 then ea else if w = 10 then (if kdT (le g p 2) = 2 then bkC B g p else 0) else if w = 11 then le g p 2 else -1
theorem eaL_at {f : Int} : ∀ (E : List (Int × Int)) (t : Int → Int) (j : Int), eaL f E t j = if j = f then t f + E.length else t j
  | [], t, j => by
    show t j = if j = f then t f + ((0 : Nat) : Int) else t j
    split
    · rename_i e
      rw [e]
      omega
    · rfl
  | _ :: r, t, j => by
    have ih := eaL_at (f := f) r (ur t f (t f + 1)) j
    show eaL f r (ur t f (t f + 1)) j = _
    rw [ih, ur_at]
    split
    · simp only [List.length_cons]
      omega
    · rename_i e
      rw [ur_ne e]
theorem eaA_at {kd : Int → Int} {Ef : Int → List (Int × Int)} : ∀ (m : Nat) (j : Int), eaA kd Ef m j = if 1 ≤ j ∧ j ≤ m ∧ kd j = 1 then ((Ef j).length : Int) else 0
  | 0, j => by
    show (0 : Int) = _
    rw [if_neg (by omega)]
  | m + 1, j => by
    have ih := eaA_at (kd := kd) (Ef := Ef) m
    have e : eaA kd Ef (m + 1) = if kd (m + 1) = 1 then eaL (m + 1) (Ef (m + 1)) (eaA kd Ef m) else eaA kd Ef m := rfl
    rw [e]
    by_cases c : kd (m + 1) = 1
    · rw [if_pos c, eaL_at]
      by_cases c2 : j = m + 1
      · rw [if_pos c2, ih, if_neg (by omega), c2, if_pos ⟨by omega, by omega, c⟩]
        omega
      · rw [if_neg c2, ih]
        by_cases c3 : 1 ≤ j ∧ j ≤ m ∧ kd j = 1
        · rw [if_pos c3, if_pos (by omega)]
        · rw [if_neg c3, if_neg (by omega)]
    · rw [if_neg c, ih]
      by_cases c2 : j = m + 1
      · rw [if_neg (by omega), if_neg (fun z => c (by rw [← c2]; exact z.2.2))]
      · by_cases c3 : 1 ≤ j ∧ j ≤ m ∧ kd j = 1
        · rw [if_pos c3, if_pos (by omega)]
        · rw [if_neg c3, if_neg (by omega)]
theorem pa_r {f : Int → Int} {s j : Int} (hO : ftO f s) (h1 : 1 ≤ j) (h2 : j ≤ le f 4 4) (hk : kdQ f j = 1) (hj : j ≠ rof f) : 0 ≤ paF (lf (rwR (qI f))) (plf f) j ∧ paF (lf (rwR (qI f))) (plf f) j ≤ le f 4 4 := by
  obtain ⟨hsu, hpl, hrw, h4, h5, h6, h7, h8⟩ := hO
  have q := ((h7.2 j h1 h2).2.2.1 hk hj).2.1
  rw [q]
  unfold hoQ
  rw [ur_ne (by omega)]
  exact hoA_r _ _ (by omega) j
theorem ea_r {f : Int → Int} {s j : Int} (hs : s ≤ 131072) (hO : ftO f s) (h1 : 1 ≤ j) (h2 : j ≤ le f 4 4) : 0 ≤ eaQ f j ∧ eaQ f j ≤ 65536 := by
  obtain ⟨hsu, hpl, hrw, h4, h5, h6, h7, h8⟩ := hO
  obtain ⟨-, ⟨shL, lLS, lL⟩, -⟩ := rows_r hs hsu hpl hrw
  unfold eaQ
  rw [eaA_at]
  split
  · rename_i c
    have := lsF_len shL lL h6 j h1 h2 c.2.2
    have e : Efq f j = lsF (rwR (qI f)) (rwS (qI f)) (rwR (qL f)) (rwS (qL f)) (hf f) (plf f) j := rfl
    rw [e]
    omega
  · omega
section ABOUT
variable {d nx zl : Nat} {K : Option TV → FH → Prop} {sh : Nat → Option Shp} {M : FM} {IR IS LR LS : List Int} {B ids F n s A r : Int} {pl h f fg dg ea : Int → Int}
theorem parentC_Y {j : Int} (hL : ltC M IR IS LR LS B ids F n pl h) (e17 : M 97 17 = r) (hr : 0 ≤ r ∧ r ≤ n) (hj : 1 ≤ j ∧ j ≤ n) (hk : kdT (le (lf IR) (pl j) 2) = 1) (k : K (some (ti (if j = r then r else paF (lf IR) pl j))) (sh, M, nx, zl)) : fm_Y (d + 3) 212 [.ref 97, .int (Int32.ofInt j)] (sh, M, nx, zl) K := by
  have nr := hL.1.2.1
  obtain ⟨ap, hd0⟩ := nd_ok hL.1.1.2.1.2.1 hL.2.1 hj.1 hj.2
  have ed := kd_dir hd0.2.1 hk
  have hf := hd0.2.2.1
  have ep : paF (lf IR) pl j = le (lf IR) (pl j + 28) 4 := rfl
  refine m212 [fx 97, ti j] ?_
  refine ⟨by omega, fun w => ?_, fun w => ?_⟩
  · rw [if_neg (by omega), ep] at k
    refine placeC_Y hL hj ?_
    refine m199 [fx 101, ti (pl j)] ?_
    refine g4i_Y hL.1.1 (by omega) (fun x x1 x2 x3 => ?_)
    exact unsig_Y (y := le (lf IR) (pl j + 28) 4) x2 (by omega) k
  · rw [if_pos (by omega), ← e17] at k
    exact k
theorem tell_Y {j w : Int} (h8 : s8C M IR IS LR LS B ids F n pl h f fg s A) (hD : M 127 1 = 4 * ids ∧ agr (M 128) dg (4 * ids)) (hids : 0 ≤ ids ∧ ids ≤ 4096) (e17 : M 97 17 = r) (hr : 0 ≤ r ∧ r ≤ n) (h115 : eqN n (M 115) ea) (hea : 0 ≤ ea j ∧ ea j ≤ 65536) (hj : 1 ≤ j ∧ j ≤ n) (hpa : kdT (le (lf IR) (pl j) 2) = 1 → j ≠ r → 0 ≤ paF (lf IR) pl j ∧ paF (lf IR) pl j ≤ n) (hw : -2147483648 ≤ w ∧ w ≤ 2147483647) (k : K (some (tj (abV (lf IR) dg B (pl j) r (paF (lf IR) pl j) (ea j) j w))) (sh, M, nx, zl)) : fm_Y (d + 4) 211 [.ref 97, .int (Int32.ofInt j), .int (Int32.ofInt w)] (sh, M, nx, zl) K := by
  have hL := h8.1
  have nr := hL.1.2.1
  have hB := hL.1.1.2.1
  have n65 := hL.1.1.1.2.2.2
  have hv := hL.2.1
  obtain ⟨ap, hd0⟩ := nd_ok hB.2.1 hv hj.1 hj.2
  have hT := hd0.2.1
  have h16 := hd0.1
  have hf := hd0.2.2.1
  have hu1 := hd0.2.2.2.2.1
  have hu2 := hd0.2.2.2.2.2
  have fg2 := fx_ge hT
  have kr : 1 ≤ kdT (le (lf IR) (pl j) 2) ∧ kdT (le (lf IR) (pl j) 2) ≤ 7 := by
    unfold kdT
    split <;> omega
  have e115 := h115 j hj.1 hj.2
  refine m211 [fx 97, ti j, ti w] ?_
  refine placeC_Y hL hj ?_
  refine kind_Y hL.1.1 (by omega) hT ?_
  have hD8 := (pr125 sh).1.2.1
  refine ⟨hw, fun c => ?_, fun c0 => ⟨fun c => ?_, fun c1 => ⟨fun c => ?_, fun c2 => ⟨fun c => ?_, fun c3 => ⟨fun c => ?_, fun c4 => ⟨fun c => ?_, fun c5 => ⟨fun c => ?_, fun c6 => ⟨fun c => ?_, fun c7 => ⟨fun c => ?_, fun c8 => ⟨fun c => ?_, fun c9 => ⟨fun c => ?_, fun c10 => ⟨fun c => ?_, fun c11 => ?_⟩⟩⟩⟩⟩⟩⟩⟩⟩⟩⟩⟩
  · replace c : w = 0 := c
    rw [c] at k
    exact ⟨by omega, k⟩
  · replace c : w = 1 := c
    rw [c] at k
    refine g2i_Y hL.1.1 (by omega) (fun l => ?_)
    exact ⟨by omega, k⟩
  · replace c : w = 2 := c
    rw [c] at k
    refine g2i_Y hL.1.1 (by omega) (fun l => ?_)
    refine g4_Y hD8 hD.1 hD.2 (by omega) (by omega) (fun x x1 x2 x3 => ?_)
    exact unsig_Y (y := le dg (4 * le (lf IR) (pl j + 4) 2) 4) x2 (by omega) k
  · replace c : w = 3 := c
    rw [c] at k
    refine g2i_Y hL.1.1 (by omega) (fun l => ?_)
    refine g4_Y hD8 hD.1 hD.2 (by omega) (by omega) (fun x x1 x2 x3 => ?_)
    exact unsig_Y (y := le dg (4 * le (lf IR) (pl j + 6) 2) 4) x2 (by omega) k
  · replace c : w = 4 := c
    rw [c] at k
    refine g4i_Y hL.1.1 (by omega) (fun x x1 x2 x3 => ?_)
    exact unsig_Y (y := le (lf IR) (pl j + 8) 4) x2 (by omega) k
  · replace c : w = 5 := c
    rw [c] at k
    have k' : K (some (tj (if kdT (le (lf IR) (pl j) 2) = 2 then fSz (lf IR) (pl j) else if kdT (le (lf IR) (pl j) 2) = 3 then le (lf IR) (pl j + 20) 4 else 0))) (sh, M, nx, zl) := k
    refine ⟨by omega, fun v => ?_, fun v => ?_⟩
    · rw [if_neg v] at k'
      refine ⟨by omega, fun v2 => ?_, fun v2 => ?_⟩
      · rw [if_neg v2] at k'
        exact k'
      · rw [if_pos v2] at k'
        obtain ⟨l1, l2, l3⟩ := lk_ok hB.2.1 hv hj.1 hj.2 v2
        exact targetSize_Y hL.1.1 (by omega) (fun _ => k')
    · rw [if_pos v] at k'
      obtain ⟨f1, f2, f3⟩ := fl_ok hB.2.1 hv hj.1 hj.2 v
      exact fileSize_Y hL.1.1 (by omega) hT (fun _ => k')
  · replace c : w = 6 := c
    rw [c] at k
    exact links_Y hL.1.1 ap.1 hT hf (fun _ => k)
  · replace c : w = 7 := c
    rw [c] at k
    have k' : K (some (tj (if kdT (le (lf IR) (pl j) 2) = 4 ∨ kdT (le (lf IR) (pl j) 2) = 5 then le (lf IR) (pl j + 20) 4 else 0))) (sh, M, nx, zl) := k
    have B225 : (kdT (le (lf IR) (pl j) 2) = 4 ∨ kdT (le (lf IR) (pl j) 2) = 5) → b211_225 (d + 3) (fW (d + 3) kd211 K) K [some (fx 97), some (ti j), some (ti w), some (ti (pl j)), some (ti (kdT (le (lf IR) (pl j) 2))), some (fx 104)] [] (sh, M, nx, zl) := by
      intro hd
      rw [if_pos hd] at k'
      have h24 : pl j + 24 ≤ IR.length := by
        have : 24 ≤ fxT (le (lf IR) (pl j) 2) := by
          unfold kdT at hd
          unfold fxT
          split at hd
          · repeat' split
            all_goals omega
          · repeat' split
            all_goals omega
        omega
      refine g4i_Y hL.1.1 (by omega) (fun x x1 x2 x3 => ?_)
      exact unsig_Y (y := le (lf IR) (pl j + 20) 4) x2 (by omega) k'
    refine ⟨by omega, fun v => B225 (Or.inl v), fun v => ?_⟩
    refine ⟨by omega, fun v2 => ?_, fun v2 => B225 (Or.inr v2)⟩
    rw [if_neg (by omega)] at k'
    exact k'
  · replace c : w = 8 := c
    rw [c] at k
    have k' : K (some (tj (if kdT (le (lf IR) (pl j) 2) = 1 then (if j = r then r else paF (lf IR) pl j) else 0))) (sh, M, nx, zl) := k
    refine ⟨by omega, fun v => ?_, fun v => ?_⟩
    · rw [if_neg v] at k'
      exact k'
    · rw [if_pos v] at k'
      refine parentC_Y hL e17 hr hj v ?_
      refine ⟨?_, k'⟩
      by_cases c2 : j = r
      · rw [if_pos c2]
        omega
      · rw [if_neg c2]
        have := hpa v c2
        omega
  · replace c : w = 9 := c
    rw [c] at k
    have k' : K (some (tj (ea j))) (sh, M, nx, zl) := k
    rw [← e115] at k'
    refine ⟨by omega, ?_⟩
    exact ⟨by omega, k'⟩
  · replace c : w = 10 := c
    rw [c] at k
    have k' : K (some (tj (if kdT (le (lf IR) (pl j) 2) = 2 then bkC B (lf IR) (pl j) else 0))) (sh, M, nx, zl) := k
    refine ⟨by omega, fun v => ?_, fun v => ?_⟩
    · rw [if_neg v] at k'
      exact k'
    · rw [if_pos v] at k'
      obtain ⟨f1, f2, f3⟩ := fl_ok hB.2.1 hv hj.1 hj.2 v
      exact blockCount_Y hL.1.1 (by omega) hT f1.1.1 k'
  · replace c : w = 11 := c
    rw [c] at k
    refine type_Y hL.1.1 (by omega) hT ?_
    exact ⟨by omega, k⟩
  · have e : abV (lf IR) dg B (pl j) r (paF (lf IR) pl j) (ea j) j w = -1 := by
      unfold abV
      rw [if_neg c0, if_neg c1, if_neg c2, if_neg c3, if_neg c4, if_neg c5, if_neg c6, if_neg c7, if_neg c8, if_neg c9, if_neg c10, if_neg c11]
    rw [e] at k
    exact k
end ABOUT
