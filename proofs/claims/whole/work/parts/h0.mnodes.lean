/-! MOUNTING: all inodes; the reference -/
section MNODES
variable {d nx zl : Nat} {K : Option TV → FH → Prop} {sh : Nat → Option Shp} {M : FM} {g : Int → Int} {N B ids F p : Int}
theorem inodeEnd_Y (hM : ndM M g N B ids F) (hp : 0 ≤ p ∧ p ≤ 65536) (k : K (some (ti (iE g N B ids F p))) (sh, M, nx, zl)) : fm_Y (d + 5) 343 [.ref 168, .int (Int32.ofInt p)] (sh, M, nx, zl) K := by
  obtain ⟨⟨n1, n2, n3, n4⟩, ⟨b1, b2, b3⟩, ⟨f1, f2, f3⟩, ⟨i1, i2, i3⟩⟩ := id hM
  have kk : ∀ r : Int, r = iE g N B ids F p → K (some (ti r)) (sh, M, nx, zl) := fun r h => by
    rw [h]
    exact k
  have NO : ¬ hdP g N ids p → K (some (ti (-1))) (sh, M, nx, zl) := fun h => kk (-1) (cif_neg h).symm
  refine m343 [fx 168, ti p] ?_
  refine hasRm_Y hM (by omega) (by omega) (fun z hz => ?_)
  refine ⟨by omega, fun w => ?_, fun w => NO (fun h => by have := h.1; omega)⟩
  refine typeAt_Y hM (by omega) (fun l0 => ?_)
  refine ⟨by omega, fun w1 => NO (fun h => by have := h.2.1.1; omega), fun w1 => ?_⟩
  refine ⟨by omega, fun w2 => NO (fun h => by have := h.2.1.2; omega), fun w2 => ?_⟩
  refine v2_Y (p + 2) hM rfl (by omega) (fun l2 => ?_)
  refine ⟨by omega, fun w3 => NO (fun h => by have := h.2.2.2.1; omega), fun w3 => ?_⟩
  refine v2_Y (p + 4) hM rfl (by omega) (fun l4 => ?_)
  refine ⟨by omega, ?_⟩
  refine ⟨by omega, fun w4 => NO (fun h => by have := h.2.2.2.2.1; omega), fun w4 => ?_⟩
  refine v2_Y (p + 6) hM rfl (by omega) (fun l6 => ?_)
  refine ⟨by omega, ?_⟩
  refine ⟨by omega, fun w5 => ?_, fun w5 => NO (fun h => by have := h.2.2.2.2.2; omega)⟩
  have EI : p + fxT (le g p 2) ≤ N → iE g N B ids F p = bodE g N B F p := fun h => cif_pos ⟨by omega, by omega, h, by omega, by omega, by omega⟩
  have eb : bodE g N B F p = if kdT (le g p 2) = 1 then dirE g N p else if kdT (le g p 2) = 2 then filE g N B F p else if kdT (le g p 2) = 3 then lnkE g N p else othE g p := rfl
  have NI : N < p + fxT (le g p 2) → K (some (ti (-1))) (sh, M, nx, zl) := fun h => NO (fun q => by have := q.2.2.1; omega)
  have ek : (le g p 2 ≤ 7 ∧ kdT (le g p 2) = le g p 2) ∨ (7 < le g p 2 ∧ kdT (le g p 2) = le g p 2 - 7) := by
    unfold kdT
    split <;> omega
  have LINK : (le g p 2 = 3 ∨ le g p 2 = 10) → ∀ y : Int, (y = 0 ∧ le g p 2 ≤ 7 ∨ y = 1 ∧ 7 < le g p 2) → b343_312 (d + 4) (fW (d + 4) kd343 K) K [some (fx 168), some (ti p), some (ti (le g p 2)), some (ti (p + 16)), none, none] [ti y, ti (p + 16), fx 168] (sh, M, nx, zl) := by
    intro hT y hy
    have ef : fxT (le g p 2) = 24 := by
      rcases hT with c | c
      · rw [c]; rfl
      · rw [c]; rfl
    rw [if_neg (by omega), if_neg (by omega), if_pos (by omega)] at eb
    refine linkEnd_Y hM rfl hp hy (fun r h1 h2 => ?_)
    by_cases c : p + 24 ≤ N
    · refine kk r ?_
      rw [EI (by omega), eb]
      exact h1 c
    · rw [h2 (by omega)]
      exact NI (by omega)
  refine ⟨by omega, fun c => ?_, fun c1 => ⟨fun c => ?_, fun c2 => ⟨fun c => ?_, fun c3 => ⟨fun c => ?_, fun c8 => ⟨fun c => ?_, fun c9 => ⟨fun c => ?_, fun c10 => ?_⟩⟩⟩⟩⟩⟩
  · -- a folder
    replace c : le g p 2 = 1 := c
    have ef : fxT (le g p 2) = 32 := by rw [c]; rfl
    rw [if_pos (by omega)] at eb
    refine hasRm_Y hM (by omega) (by omega) (fun z hz => ?_)
    refine ⟨by omega, fun w6 => NI (by omega), fun w6 => ?_⟩
    refine v2_Y (p + 24) hM (by omega) (by omega) (fun l => ?_)
    have ed : dirE g N p = if 3 ≤ le g (p + 24) 2 then p + 32 else -1 := by
      unfold dirE
      rw [if_pos (by omega)]
    refine ⟨by omega, fun w7 => kk (-1) ?_, fun w7 => kk (p + 16 + 16) ?_⟩
    · rw [EI (by omega), eb, ed, if_neg (by omega)]
    · rw [EI (by omega), eb, ed, if_pos (by omega)]
      omega
  · -- a file
    clear c1
    replace c : le g p 2 = 2 := c
    have ef : fxT (le g p 2) = 32 := by rw [c]; rfl
    rw [if_neg (by omega), if_pos (by omega)] at eb
    refine hasRm_Y hM (by omega) (by omega) (fun z hz => ?_)
    refine ⟨by omega, fun w6 => NI (by omega), fun w6 => ?_⟩
    refine v4_Y (p + 28) hM (by omega) (by omega) (fun l => ?_)
    refine v4_Y (p + 20) hM (by omega) (by omega) (fun l' => ?_)
    refine v4_Y (p + 24) hM (by omega) (by omega) (fun l'' => ?_)
    refine fileEnd_Y hM (by omega) l' l'' (by omega) ?_
    refine kk _ ?_
    rw [EI (by omega), eb]
    unfold filE fSz fFr fOf
    rw [if_pos (Or.inl (by omega)), if_pos (by omega), if_pos (by omega), if_pos (by omega), ef, show p + 16 + 16 = p + 32 by omega]
  · clear c1 c2
    replace c : le g p 2 = 3 := c
    exact ⟨by omega, fun _ => LINK (Or.inl c) 0 (by omega), fun q => by omega⟩
  · -- a folder with indexes
    clear c1 c2 c3
    replace c : le g p 2 = 8 := c
    have ef : fxT (le g p 2) = 40 := by rw [c]; rfl
    rw [if_pos (by omega)] at eb
    refine directoryEnd_Y hM rfl hp (fun r h1 h2 => ?_)
    by_cases c4 : p + 40 ≤ N
    · refine kk r ?_
      rw [EI (by omega), eb, h1 c4]
      unfold dirE
      rw [if_neg (show ¬ le g p 2 ≤ 7 by omega)]
    · rw [h2 (by omega)]
      exact NI (by omega)
  · -- a file that tells more
    clear c1 c2 c3 c8
    replace c : le g p 2 = 9 := c
    have ef : fxT (le g p 2) = 56 := by rw [c]; rfl
    rw [if_neg (by omega), if_pos (by omega)] at eb
    refine hasRm_Y hM (by omega) (by omega) (fun z hz => ?_)
    refine ⟨by omega, fun w6 => NI (by omega), fun w6 => ?_⟩
    have efl : filE g N B F p = if le g (p + 52) 4 = 4294967295 then flE g N B F (s64 (le g (p + 24) 8)) (le g (p + 44) 4) (le g (p + 48) 4) (p + 56) else -1 := by
      unfold filE fSz fFr fOf
      rw [ef, if_neg (show ¬ le g p 2 ≤ 7 by omega), if_neg (show ¬ le g p 2 ≤ 7 by omega), if_neg (show ¬ le g p 2 ≤ 7 by omega)]
      by_cases q : le g (p + 52) 4 = 4294967295
      · rw [if_pos (Or.inr q), if_pos q]
      · rw [if_neg (fun z => by omega), if_neg q]
    refine areOnes_Y (p + 52) hM (by omega) (by omega) (fun z hz => ?_)
    refine ⟨by omega, fun w7 => kk (-1) ?_, fun w7 => ?_⟩
    · rw [EI (by omega), eb, efl, if_neg (by omega)]
    rw [if_pos (by omega)] at efl
    refine v8_Y (p + 24) hM (by omega) (by omega) (fun l => ?_)
    refine v4_Y (p + 44) hM (by omega) (by omega) (fun l' => ?_)
    refine v4_Y (p + 48) hM (by omega) (by omega) (fun l'' => ?_)
    refine fileEnd_Y hM l l' l'' (by omega) ?_
    refine kk _ ?_
    rw [EI (by omega), eb, efl, show p + 16 + 40 = p + 56 by omega]
  · clear c1 c2 c3 c8 c9
    replace c : le g p 2 = 10 := c
    exact ⟨by omega, fun q => absurd c q, fun _ => LINK (Or.inr c) 1 (by omega)⟩
  · -- the others
    replace c1 : le g p 2 ≠ 1 := c1
    replace c2 : le g p 2 ≠ 2 := c2
    replace c3 : le g p 2 ≠ 3 := c3
    replace c8 : le g p 2 ≠ 8 := c8
    replace c9 : le g p 2 ≠ 9 := c9
    replace c10 : le g p 2 ≠ 10 := c10
    rw [if_neg (by omega), if_neg (by omega), if_neg (by omega)] at eb
    have ef : fxT (le g p 2) = 16 + (if kdT (le g p 2) < 6 then 8 else 4) + (if le g p 2 ≤ 7 then 0 else 4) := by
      unfold fxT
      split <;> omega
    have eo : othE g p = if le g p 2 ≤ 7 ∨ le g (p + fxT (le g p 2) - 4) 4 = 4294967295 then p + fxT (le g p 2) else -1 := rfl
    refine kindAt_Y hM (by omega) (by omega) ?_
    have B345 : ∀ (m y : Int), (m = 8 ∨ m = 4) → (y = 0 ∧ le g p 2 ≤ 7 ∨ y = 1 ∧ 7 < le g p 2) → fxT (le g p 2) = 16 + m + 4 * y → b343_345 (d + 4) (fW (d + 4) kd343 K) K [some (fx 168), some (ti p), some (ti (le g p 2)), some (ti (p + 16)), some (ti m), none] [ti y] (sh, M, nx, zl) := by
      intro m y hm hy ef2
      have B387 : p + fxT (le g p 2) ≤ N → (7 < le g p 2 → le g (p + fxT (le g p 2) - 4) 4 = 4294967295) → b343_387 (d + 4) (fW (d + 4) kd343 K) K [some (fx 168), some (ti p), some (ti (le g p 2)), some (ti (p + 16)), some (ti m), some (ti y)] [] (sh, M, nx, zl) := by
        intro h1 h2
        refine ⟨by omega, fun w8 => kk _ ?_, fun w8 => kk _ ?_⟩
        · rw [EI h1, eb, eo, if_pos (by omega)]
          omega
        · rw [EI h1, eb, eo, if_pos (by omega)]
          omega
      have B365 : ∀ u : Int, u = fxT (le g p 2) - 16 → b343_365 (d + 4) (fW (d + 4) kd343 K) K [some (fx 168), some (ti p), some (ti (le g p 2)), some (ti (p + 16)), some (ti m), some (ti y)] [tj u, ti (p + 16), fx 168] (sh, M, nx, zl) := by
        intro u hu
        refine hasRm_Y hM (by omega) (by omega) (fun z hz => ?_)
        refine ⟨by omega, fun w6 => NI (by omega), fun w6 => ?_⟩
        refine ⟨by omega, fun w7 => B387 (by omega) (fun q => by omega), fun w7 => ?_⟩
        refine areOnes_Y (p + fxT (le g p 2) - 4) hM (by omega) (by omega) (fun z hz2 => ?_)
        refine ⟨by omega, fun w8 => kk (-1) ?_, fun w8 => B387 (by omega) (fun _ => by omega)⟩
        rw [EI (by omega), eb, eo, if_neg (fun q => by omega)]
      refine ⟨by omega, fun w6 => ⟨by omega, B365 m (by omega)⟩, fun w6 => ⟨by omega, B365 (m + 4) (by omega)⟩⟩
    have B332 : ∀ m : Int, (m = 8 ∧ kdT (le g p 2) < 6 ∨ m = 4 ∧ ¬ kdT (le g p 2) < 6) → b343_332 (d + 4) (fW (d + 4) kd343 K) K [some (fx 168), some (ti p), some (ti (le g p 2)), some (ti (p + 16)), none, none] [ti m] (sh, M, nx, zl) := by
      intro m hm
      have e1 : m = if kdT (le g p 2) < 6 then 8 else 4 := by
        rcases hm with z | z
        · rw [if_pos z.2]; exact z.1
        · rw [if_neg z.2]; exact z.1
      rw [← e1] at ef
      refine ⟨by omega, fun w6 => B345 m 0 (by omega) (by omega) ?_, fun w6 => B345 m 1 (by omega) (by omega) ?_⟩
      · rw [if_pos (by omega)] at ef
        omega
      · rw [if_neg (by omega)] at ef
        omega
    exact ⟨by omega, fun w6 => B332 4 (by omega), fun w6 => B332 8 (by omega)⟩
end MNODES
