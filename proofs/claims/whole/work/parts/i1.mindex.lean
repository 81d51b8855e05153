/-! MOUNTING: listings; the reference's indexes -/
section MINDEX
variable {d nx zl : Nat} {K : Option TV → FH → Prop} {sh : Nat → Option Shp} {M : FM} {IR IS LR LS : List Int} {B ids F n : Int} {pl h : Int → Int}
theorem iw_dir {g : Int → Int} {N j : Int} (hB : 4096 ≤ B) (hv : inV g N B ids F n pl h) (h1 : 1 ≤ j) (h2 : j ≤ n) (k : kdT (le g (pl j) 2) = 1) : ixN g (pl j) = 0 ∨ (0 < ixN g (pl j) ∧ iwG g N (ixN g (pl j)).toNat (pl j + fxT (le g (pl j) 2)) ≠ -1) := by
  obtain ⟨a1, b1, c1, e1⟩ := hv.1 j h1 h2
  rcases iE_r (g := g) (N := N) (ids := ids) (F := F) hB a1 with z | z
  · omega
  · have ed := kd_dir z.2.2.1.2.1 k
    have eb : bodE g N B F (pl j) = if kdT (le g (pl j) 2) = 1 then dirE g N (pl j) else if kdT (le g (pl j) 2) = 2 then filE g N B F (pl j) else if kdT (le g (pl j) 2) = 3 then lnkE g N (pl j) else othE g (pl j) := rfl
    rw [if_pos k] at eb
    have ne : dirE g N (pl j) ≠ -1 := by omega
    have l32 := le_nn g 2 (pl j + 32)
    unfold ixN
    by_cases c : le g (pl j) 2 ≤ 7
    · rw [if_pos c]
      exact Or.inl rfl
    · rw [if_neg c]
      by_cases c2 : le g (pl j + 32) 2 = 0
      · exact Or.inl c2
      · refine Or.inr ⟨by omega, ?_⟩
        unfold dirE at ne
        rw [if_neg c] at ne
        split at ne
        · rw [show pl j + fxT (le g (pl j) 2) = pl j + 40 by omega]
          exact ne
        · exact absurd rfl ne
theorem areIndexes_Y {j b e : Int} {E : List (Int × Int)} (hL : mlC M IR IS LR LS B ids F n pl h) (hj : 1 ≤ j ∧ j ≤ n) (hk : kdT (le (lf IR) (pl j) 2) = 1) (hop : opP LR LS (lf IR) (pl j) b e) (hE : wkL IS (lf LR) e b 0 0 E)
    (k : ∀ (M2 : FM) (z : Int), moF M M2 → (z = 1 ∧ rfI (lf IR) (lf LR) LS b E (ixN (lf IR) (pl j)).toNat 0 (pl j + fxT (le (lf IR) (pl j) 2)) ∨ z = 0 ∧ ¬ rfI (lf IR) (lf LR) LS b E (ixN (lf IR) (pl j)).toNat 0 (pl j + fxT (le (lf IR) (pl j) 2))) → K (some (ti z)) (sh, M2, nx, zl)) : fm_Y (d + 7) 362 [.ref 168, .int (Int32.ofInt j)] (sh, M, nx, zl) K := by
  have lr := hL.2.2.2.2.2.1.2
  have n65 := hL.1.1.1.2.2.2
  have hs := hL.2.2.2.2.2.2.1
  have hB := hL.1.1.2.1.2.1
  have hr := opP_r hs hop
  obtain ⟨ap, hd0⟩ := nd_ok hB hL.2.1 hj.1 hj.2
  have ed := kd_dir hd0.2.1 hk
  have hf := hd0.2.2.1
  have iw0 := iw_dir hB hL.2.1 hj.1 hj.2 hk
  obtain ⟨P, gP⟩ : ∃ P : Prop, P = rfI (lf IR) (lf LR) LS b E (ixN (lf IR) (pl j)).toNat 0 (pl j + fxT (le (lf IR) (pl j) 2)) := ⟨_, rfl⟩
  rw [← gP] at k
  refine m362 [fx 168, ti j] ?_
  refine whereIs_Y hL hj ?_
  refine typeAt_Y hL.1.1 (by omega) (fun l => ?_)
  refine ⟨by omega, fun w => ?_, fun w => ⟨Or.inr rfl, k M 1 (mo_refl M) (Or.inl ⟨rfl, ?_⟩)⟩⟩
  rotate_left
  · rw [gP]
    have : ixN (lf IR) (pl j) = 0 := if_pos (by omega)
    rw [this]
    exact trivial
  have e8 : fxT (le (lf IR) (pl j) 2) = 40 := by omega
  have ex : ixN (lf IR) (pl j) = le (lf IR) (pl j + 32) 2 := if_neg (by omega)
  rw [ex, e8] at gP iw0
  refine whereIs_Y hL hj ?_
  refine whereIs_Y hL hj ?_
  refine v2_Y (pl j + 32) hL.1.1 rfl (by omega) (fun l32 => ?_)
  have NO : ∀ M1 : FM, moF M M1 → ¬ P → K (some (ti 0)) (sh, M1, nx, zl) := fun M1 F1 q => k M1 0 F1 (Or.inr ⟨rfl, q⟩)
  have L : ∀ (m : Nat) (kk ix w : Int) (M1 : FM) (y7 y8 y9 : Option TV), kk = m → m ≤ 65535 → moF M M1 → (0 ≤ w ∧ w ≤ 4294967296) → (0 < m → (0 ≤ ix ∧ ix ≤ IR.length) ∧ iwG (lf IR) IR.length m ix ≠ -1) → (P ↔ rfI (lf IR) (lf LR) LS b E m w ix) → fm_X (d + 6) kd362 41 [some (fx 168), some (ti j), some (ti ix), some (tj w), none, some (tj kk), none, y7, y8, y9] [] (sh, M1, nx, zl) K := by
    intro m
    induction m with
    | zero =>
      intro kk ix w M1 y7 y8 y9 h1 h2 F1 hw hi hP
      refine s362_41 (d + 6) K _ _ _ ?_
      exact ⟨by omega, fun _ => ⟨Or.inr rfl, k M1 1 F1 (Or.inl ⟨rfl, hP.2 trivial⟩)⟩, fun z => by omega⟩
    | succ m ih =>
      intro kk ix w M1 y7 y8 y9 h1 h2 F1 hw hi hP
      obtain ⟨hx1, hx2⟩ := hi (by omega)
      have er : iwG (lf IR) IR.length (m + 1) ix = if ix + 12 ≤ IR.length ∧ le (lf IR) (ix + 8) 4 ≤ 255 ∧ ix + 13 + le (lf IR) (ix + 8) 4 ≤ IR.length then iwG (lf IR) IR.length m (ix + 13 + le (lf IR) (ix + 8) 4) else -1 := rfl
      rw [er] at hx2
      have hroom : (ix + 12 ≤ IR.length ∧ le (lf IR) (ix + 8) 4 ≤ 255 ∧ ix + 13 + le (lf IR) (ix + 8) 4 ≤ IR.length) ∧ iwG (lf IR) IR.length m (ix + 13 + le (lf IR) (ix + 8) 4) ≠ -1 := by
        split at hx2
        · rename_i c
          exact ⟨c, hx2⟩
        · exact absurd rfl hx2
      have l8 := le_nn (lf IR) 4 (ix + 8)
      have hL1 := mlC_to hL F1
      refine s362_41 (d + 6) K _ _ _ ?_
      refine ⟨by omega, fun z => by omega, fun _ => ?_⟩
      refine v4_Y ix hL1.1.1 rfl (by omega) (fun r0 => ?_)
      refine v4_Y (ix + 8) hL1.1.1 rfl (by omega) (fun r8 => ?_)
      refine ⟨by omega, fun z => ⟨Or.inl rfl, NO M1 F1 (fun q => by have := (hP.1 q).1; omega)⟩, fun z => ?_⟩
      refine isHeader_Y hL1 hj hk (by omega) hop hE (fun M2 F2 no => ?_) (fun M2 F2 yes hnE t => ?_)
      · exact ⟨by omega, fun _ => ⟨Or.inl rfl, NO M2 (mo_trans F1 F2) (fun q => no (hP.1 q).2.1)⟩, fun q => absurd rfl q⟩
      have F12 := mo_trans F1 F2
      have hL2 := mlC_to hL F12
      obtain ⟨t11, t14, t15⟩ := t
      have E1 := hnE.1
      have l6 := le_nn (lf LR) 2 (b + le (lf IR) ix 4 + 12 + 6)
      have s6 := hs.1
      obtain ⟨q1, q2⟩ := hL2.2.2.2.2.1 ((b + le (lf IR) ix 4) / 8192) (by omega) (by omega)
      have q3 := hs.2.1 ((b + le (lf IR) ix 4) / 8192) (by omega) (by omega)
      have S8 := hL.2.2.2.2.2.2.2
      refine ⟨by omega, fun q => by omega, fun _ => ?_⟩
      refine v4_Y (ix + 4) hL2.1.1 rfl (by omega) (fun r4 => ?_)
      refine ⟨by omega, ?_⟩
      refine ⟨by omega, ?_⟩
      rw [t11, q1]
      refine ⟨by omega, ?_⟩
      refine ⟨by omega, fun w4 => ?_, fun w4 => ⟨Or.inl rfl, NO M2 F12 (fun q => w4 (hP.1 q).2.2.1.1)⟩⟩
      refine morder_I (rr238 sh).1.2.1 (rr242 sh).1.2.1 (by omega) (by omega) (by omega) (by omega) (by omega) (by omega) (by omega) (by omega) ?_
      have s1 : sl (M2 241) (ix + 12) (le (lf IR) (ix + 8) 4 + 1).toNat = sl (lf IR) (ix + 12) (le (lf IR) (ix + 8) 4 + 1).toNat := sl_agr hL2.1.1.1.2.1 (by omega) (by omega)
      have s2 : sl (M2 245) (M2 168 114) (M2 168 115).toNat = nmS (lf LR) (b + le (lf IR) ix 4 + 12) := by
        rw [t14, t15]
        exact sl_agr hL2.2.2.2.2.2.1.1 (by omega) (by omega)
      have orr := ordL_sl (M2 241) (M2 245) (ix + 12) (M2 168 114) (le (lf IR) (ix + 8) 4 + 1).toNat (M2 168 115).toNat
      have oe := ordL_eq (sl (M2 241) (ix + 12) (le (lf IR) (ix + 8) 4 + 1).toNat) (sl (M2 245) (M2 168 114) (M2 168 115).toNat)
      rw [s1, s2] at oe
      rw [s1, s2] at orr ⊢
      refine ⟨by omega, fun w5 => ?_, fun w5 => ⟨Or.inl rfl, NO M2 F12 (fun q => w5 (oe.2 (hP.1 q).2.2.1.2))⟩⟩
      have T := ih (kk - 1) (ix + 13 + le (lf IR) (ix + 8) 4) (le (lf IR) ix 4) M2 (some (tj (le (lf IR) ix 4))) none (some (ti (le (lf IR) (ix + 8) 4 + 1))) (by omega) (by omega) F12 (by omega) (fun _ => ⟨by omega, hroom.2⟩) (hP.trans ⟨fun q => q.2.2.2, fun q => ⟨by omega, yes, ⟨w4, oe.1 w5⟩, q⟩⟩)
      rw [show ix + 13 + le (lf IR) (ix + 8) 4 = ix + 12 + (le (lf IR) (ix + 8) 4 + 1) by omega] at T
      exact T
  refine L (le (lf IR) (pl j + 32) 2).toNat (le (lf IR) (pl j + 32) 2) (pl j + 40) 0 M _ _ _ (by omega) (by omega) (mo_refl M) (by omega) (fun q => ⟨by omega, ?_⟩) (by rw [gP])
  rcases iw0 with z | z
  · omega
  · exact z.2
end MINDEX
