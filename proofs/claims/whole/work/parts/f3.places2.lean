/-! MOUNTING: where the parts lie; the class, whole -/
def plNF (f : Int → Int) : Nat := ((16 * le f 16 4 + 8191) / 8192).toNat
def plNX (f : Int → Int) : Nat := ((8 * le f 4 4 + 8191) / 8192).toNat
def plNI (f : Int → Int) : Nat := ((4 * le f 26 2 + 8191) / 8192).toNat
def plF (f : Int → Int) : Int := s64 (le f 80 8)
def plX (f : Int → Int) : Int := s64 (le f 88 8)
def plI (f : Int → Int) : Int := s64 (le f 48 8)
def plU (f : Int → Int) : Int := s64 (le f 40 8)
def plA (f : Int → Int) : Int := if 0 < le f 16 4 then plF f else if plX f ≠ -1 then plX f else plI f
def plB (f : Int → Int) : Int := s64 (le f (plA f) 8)
def plP1 (f : Int → Int) : Int := if 0 < le f 16 4 then plF f + 8 * plNF f else plB f
def plP2 (f : Int → Int) : Int := if plX f ≠ -1 then plX f + 8 * plNX f else plP1 f
/-- the tables lie right -/
def plT (f : Int → Int) : Prop := (0 ≤ plA f ∧ plA f ≤ plU f - 8 ∧ s64 (le f 72 8) ≤ plB f ∧ plB f ≤ plU f) ∧ (0 < le f 16 4 → tbP f (plU f) (plF f) (plNF f) (plB f)) ∧ (plX f ≠ -1 → tbP f (plU f) (plX f) (plNX f) (plP1 f)) ∧ tbP f (plU f) (plI f) (plNI f) (plP2 f) ∧ plI f + 8 * plNI f = plU f
def plP (f : Int → Int) : Prop := plT f ∧ pcs f (s64 (le f 64 8)) (s64 (le f 72 8)) ∧ pcs f (s64 (le f 72 8)) (plB f)
section PLACES2
variable {d nx zl : Nat} {K : Option TV → FH → Prop} {sh : Nat → Option Shp} {M : FM}
theorem tableBegin_Y {q : Int} (hs : 96 ≤ M 98 1 ∧ M 98 1 ≤ 131072) (hq : 0 ≤ q ∧ q ≤ 88) (ht : 0 ≤ s64 (le (M 99) q 8) ∧ s64 (le (M 99) q 8) + 8 ≤ M 98 1) (k : K (some (ti (s64 (le (M 99) (s64 (le (M 99) q 8)) 8)))) (sh, M, nx, zl)) : fm_Y (d + 2) 136 [.ref 97, .int (Int32.ofInt q)] (sh, M, nx, zl) K := by
  refine m136 [fx 97, ti q] ?_
  refine i8_Y hs hq (fun t8 => ?_)
  refine eight_Y (rowS_98 sh) (by omega) (by omega) hs.2 ?_
  have e8 : r8 (M 99) (M 98 1) (s64 (le (M 99) q 8)) = s64 (le (M 99) (s64 (le (M 99) q 8)) 8) := if_pos (by omega)
  rw [e8]
  exact k
theorem tablesAt_Y (hs : 96 ≤ M 98 1 ∧ M 98 1 ≤ 131072) (hc : suC (M 99) M) (h16 : 0 ≤ le (M 99) 16 4 ∧ le (M 99) 16 4 ≤ 4096) (ht : 0 ≤ plA (M 99) ∧ plA (M 99) + 8 ≤ M 98 1) (k : K (some (ti (plB (M 99)))) (sh, M, nx, zl)) : fm_Y (d + 3) 135 [.ref 97] (sh, M, nx, zl) K := by
  obtain ⟨c9, c10, c11, c12, c13, c14, c15, c16⟩ := hc
  refine m135 [fx 97] ?_
  unfold plB at k
  unfold plA at k ht
  refine ⟨by omega, fun w => ?_, fun w => ?_⟩
  · rw [if_neg (by omega)] at k ht
    refine ⟨by omega, fun w2 => ?_, fun w2 => ?_⟩
    · have e : plX (M 99) = -1 := c13.1 w2
      rw [if_neg (fun z => z e)] at k ht
      exact tableBegin_Y hs (by omega) ht k
    · have e : plX (M 99) ≠ -1 := fun z => w2 (c13.2 z)
      rw [if_pos e] at k ht
      exact tableBegin_Y hs (by omega) ht k
  · rw [if_pos (by omega)] at k ht
    exact tableBegin_Y hs (by omega) ht k
theorem placesHold_Y (hs : 0 ≤ M 98 1 ∧ M 98 1 ≤ 131072) (hsu : suP (M 99) (M 98 1)) (hc : suC (M 99) M) (k : ∀ z : Int, (z = 1 ∧ plP (M 99) ∨ z = 0 ∧ ¬ plP (M 99)) → K (some (ti z)) (sh, M, nx, zl)) : fm_Y (d + 4) 131 [.ref 97] (sh, M, nx, zl) K := by
  have hsu0 := hsu
  obtain ⟨s0, -, -, ⟨s1, s2, s3⟩, s4, s5⟩ := hsu
  have hc0 := hc
  obtain ⟨c9, c10, c11, c12, c13, c14, c15, c16⟩ := hc
  have hs9 : 96 ≤ M 98 1 ∧ M 98 1 ≤ 131072 := by omega
  have l16 := le_nn (M 99) 4 16
  have hU : plU (M 99) = s64 (le (M 99) 40 8) := rfl
  have hu : 0 ≤ M 97 14 ∧ M 97 14 ≤ M 98 1 := by omega
  have nF : (plNF (M 99) : Int) = (16 * le (M 99) 16 4 + 8191) / 8192 := by
    unfold plNF
    omega
  have nX : (plNX (M 99) : Int) = (8 * le (M 99) 4 4 + 8191) / 8192 := by
    unfold plNX
    omega
  have nI : (plNI (M 99) : Int) = (4 * le (M 99) 26 2 + 8191) / 8192 := by
    unfold plNI
    omega
  refine m131 [fx 97] ?_
  have B82 : ∀ (r : Int) (y2 : Option TV), (r = plU (M 99) ↔ plT (M 99)) → (-1 ≤ r ∧ r ≤ 200000) → b131_82 (d + 3) (fW (d + 3) kd131 K) K [some (fx 97), some (ti r), y2] [] (sh, M, nx, zl) := by
    intro r y2 hr rr
    refine ⟨by omega, fun w => ⟨Or.inl rfl, k 0 (Or.inr ⟨rfl, fun h => w ?_⟩)⟩, fun w => ?_⟩
    · rw [c14]
      exact hr.2 h.1
    · have T := hr.1 (by rw [hU, ← c14]; exact w)
      have T0 := T.1
      refine piecesFill_Y hs (by omega) (by omega) (fun z hz => ?_)
      rw [c15, c16] at hz
      rcases hz with ⟨z1, z2⟩ | ⟨z1, z2⟩
      · rw [z1]
        refine ⟨by omega, fun q => by omega, fun _ => ?_⟩
        refine tablesAt_Y hs9 hc0 (by omega) (by omega) ?_
        refine piecesFill_Y hs (by omega) (by omega) (fun z hz => ?_)
        rw [c16] at hz
        rcases hz with ⟨y1, y2⟩ | ⟨y1, y2⟩
        · rw [y1]
          refine ⟨by omega, fun q => by omega, fun _ => ?_⟩
          exact ⟨Or.inr rfl, k 1 (Or.inl ⟨rfl, T, z2, y2⟩)⟩
        · rw [y1]
          refine ⟨by omega, fun _ => ⟨Or.inl rfl, k 0 (Or.inr ⟨rfl, fun h => y2 h.2.2⟩)⟩, fun q => absurd rfl q⟩
      · rw [z1]
        refine ⟨by omega, fun _ => ⟨Or.inl rfl, k 0 (Or.inr ⟨rfl, fun h => z2 h.2.1⟩)⟩, fun q => absurd rfl q⟩
  have X82 : ∀ (y2 : Option TV), ¬ plT (M 99) → b131_82 (d + 3) (fW (d + 3) kd131 K) K [some (fx 97), some (ti (-1)), y2] [] (sh, M, nx, zl) := fun y2 h => B82 (-1) y2 ⟨fun z => by omega, fun z => absurd z h⟩ (by omega)
  have X62 : ∀ (z2 : Int), ¬ plT (M 99) → b131_62 (d + 3) (fW (d + 3) kd131 K) K [some (fx 97), some (ti (-1)), some (ti z2)] [] (sh, M, nx, zl) := fun z2 h => ⟨by omega, fun _ => X82 _ h, fun w => absurd rfl w⟩
  -- the third table, from r on
  have B62 : ∀ (r z2 : Int), (z2 = 0 ∨ z2 = 1) → (0 ≤ r ∧ r ≤ 200000) → (plT (M 99) ↔ ctP (M 99) (M 97 14) 48 (plNI (M 99)) r z2 ∧ plI (M 99) + 8 * plNI (M 99) = plU (M 99)) → b131_62 (d + 3) (fW (d + 3) kd131 K) K [some (fx 97), some (ti r), some (ti z2)] [] (sh, M, nx, zl) := by
    intro r z2 hz hr hT
    refine ⟨by omega, fun w => by omega, fun w => ?_⟩
    refine tableEnd_Y (n := plNI (M 99)) hs9 hu (by omega) (by omega) (by omega) hr hz (fun r3 h3 => ?_)
    rcases h3 with ⟨h3, e3⟩ | ⟨h3, e3⟩
    · have b8 := h3.1.2
      refine B82 r3 _ ⟨fun q => hT.2 ⟨h3, ?_⟩, fun q => ?_⟩ (by have := h3.1.1; omega)
      · rw [← q, e3]
        rfl
      · rw [e3, ← (hT.1 q).2]
        rfl
    · rw [e3]
      exact X82 _ (fun q => h3 (hT.1 q).1)
  -- the second table, from r on
  have B32 : ∀ (r z2 : Int), (z2 = 0 ∨ z2 = 1) → (0 ≤ r ∧ r ≤ 200000) → (plX (M 99) = -1 → (plT (M 99) ↔ ctP (M 99) (M 97 14) 48 (plNI (M 99)) r z2 ∧ plI (M 99) + 8 * plNI (M 99) = plU (M 99))) → (plX (M 99) ≠ -1 → (plT (M 99) ↔ ctP (M 99) (M 97 14) 88 (plNX (M 99)) r z2 ∧ tbP (M 99) (plU (M 99)) (plI (M 99)) (plNI (M 99)) (plX (M 99) + 8 * plNX (M 99)) ∧ plI (M 99) + 8 * plNI (M 99) = plU (M 99))) → b131_32 (d + 3) (fW (d + 3) kd131 K) K [some (fx 97), some (ti r), some (ti z2)] [] (sh, M, nx, zl) := by
    intro r z2 hz hr h1 h2
    refine ⟨by omega, fun w => B62 r z2 hz hr (h1 (c13.1 w)), fun w => ?_⟩
    have hX : plX (M 99) ≠ -1 := fun q => w (c13.2 q)
    have hT := h2 hX
    refine ⟨by omega, fun w2 => by omega, fun w2 => ?_⟩
    refine tableEnd_Y (n := plNX (M 99)) hs9 hu (by omega) (by omega) (by omega) hr hz (fun r2 h3 => ?_)
    rcases h3 with ⟨h3, e3⟩ | ⟨h3, e3⟩
    · have b8 := h3.1.2
      have a8 := h3.1.1
      refine B62 r2 0 (Or.inl rfl) (by omega) (hT.trans ?_)
      rw [ct_next (by omega) (by omega), e3, c14]
      exact ⟨fun q => ⟨q.2.1, q.2.2⟩, fun q => ⟨by rw [← c14]; exact h3, q.1, q.2⟩⟩
    · rw [e3]
      exact X62 0 (fun q => h3 (hT.1 q).1)
  refine ⟨by omega, fun w => ?_, fun w => ?_⟩
  · have hf0 : ¬ 0 < le (M 99) 16 4 := by omega
    have eA : plA (M 99) = if plX (M 99) ≠ -1 then plX (M 99) else plI (M 99) := if_neg hf0
    have e1 : plP1 (M 99) = plB (M 99) := if_neg hf0
    refine B32 _ 1 (Or.inr rfl) (by omega) (fun hX => ?_) (fun hX => ?_)
    · rw [if_neg (fun q => q hX)] at eA
      have e2 : plP2 (M 99) = plP1 (M 99) := if_neg (fun q => q hX)
      rw [ct_first (by omega) (by omega), c14, c16]
      unfold plT
      rw [e2, e1, eA]
      have eB : plB (M 99) = s64 (le (M 99) (plI (M 99)) 8) := by
        unfold plB
        rw [eA]
      constructor
      · intro q
        exact ⟨⟨by rw [← show plB (M 99) = s64 (le (M 99) (s64 (le (M 99) 48 8)) 8) from eB]; exact q.1.2.2.1, by have := q.2.2.2.1; rw [eB] at this; exact this⟩, q.2.2.2.2⟩
      · intro q
        have q1 : tbP (M 99) (plU (M 99)) (plI (M 99)) (plNI (M 99)) (plB (M 99)) := by
          rw [eB]
          exact q.1.2
        have q2 := q.1.1
        have q2' : s64 (le (M 99) 72 8) ≤ plB (M 99) := by
          rw [eB]
          exact q2
        have q3 : plB (M 99) + 3 ≤ plI (M 99) := by
          obtain ⟨g, hg⟩ : ∃ g, plNI (M 99) = g + 1 := ⟨plNI (M 99) - 1, by omega⟩
          have := q1.2.2
          rw [hg] at this
          exact tbG_lt this
        have q4 := q1.2.1
        exact ⟨⟨q1.1, by omega, q2', by omega⟩, fun z => absurd z hf0, fun z => absurd hX z, q1, q.2⟩
    · rw [if_pos hX] at eA
      have e2 : plP2 (M 99) = plX (M 99) + 8 * plNX (M 99) := if_pos hX
      rw [ct_first (by omega) (by omega), c14, c16]
      unfold plT
      rw [e2, e1, eA]
      have eB : plB (M 99) = s64 (le (M 99) (plX (M 99)) 8) := by
        unfold plB
        rw [eA]
      constructor
      · intro q
        exact ⟨⟨by rw [← show plB (M 99) = s64 (le (M 99) (s64 (le (M 99) 88 8)) 8) from eB]; exact q.1.2.2.1, by have := q.2.2.1 hX; rw [eB] at this; exact this⟩, q.2.2.2⟩
      · intro q
        have q1 : tbP (M 99) (plU (M 99)) (plX (M 99)) (plNX (M 99)) (plB (M 99)) := by
          rw [eB]
          exact q.1.2
        have q2' : s64 (le (M 99) 72 8) ≤ plB (M 99) := by
          rw [eB]
          exact q.1.1
        have q3 : plB (M 99) + 3 ≤ plX (M 99) := by
          obtain ⟨g, hg⟩ : ∃ g, plNX (M 99) = g + 1 := ⟨plNX (M 99) - 1, by omega⟩
          have := q1.2.2
          rw [hg] at this
          exact tbG_lt this
        have q4 := q1.2.1
        exact ⟨⟨q1.1, by omega, q2', by omega⟩, fun z => absurd z hf0, fun _ => q1, q.2⟩
  · have hf1 : 0 < le (M 99) 16 4 := by omega
    have eA : plA (M 99) = plF (M 99) := if_pos hf1
    have e1 : plP1 (M 99) = plF (M 99) + 8 * plNF (M 99) := if_pos hf1
    have eB : plB (M 99) = s64 (le (M 99) (plF (M 99)) 8) := by
      unfold plB
      rw [eA]
    refine tableEnd_Y (n := plNF (M 99)) hs9 hu (by omega) (by omega) (by omega) (by omega) (Or.inr rfl) (fun r1 h3 => ?_)
    rw [ct_first (by omega) (by omega), c14, c16] at h3
    rcases h3 with ⟨h3, e3⟩ | ⟨h3, e3⟩
    · have q1 : tbP (M 99) (plU (M 99)) (plF (M 99)) (plNF (M 99)) (plB (M 99)) := by
        rw [eB]
        exact h3.2
      have q2' : s64 (le (M 99) 72 8) ≤ plB (M 99) := by
        rw [eB]
        exact h3.1
      have q3 : plB (M 99) + 3 ≤ plF (M 99) := by
        obtain ⟨g, hg⟩ : ∃ g, plNF (M 99) = g + 1 := ⟨plNF (M 99) - 1, by omega⟩
        have := q1.2.2
        rw [hg] at this
        exact tbG_lt this
      have q4 := q1.2.1
      have q0 := q1.1
      have er : r1 = plF (M 99) + 8 * plNF (M 99) := e3
      refine B32 r1 0 (Or.inl rfl) (by omega) (fun hX => ?_) (fun hX => ?_)
      · have e2 : plP2 (M 99) = plP1 (M 99) := if_neg (fun q => q hX)
        rw [ct_next (by omega) (by omega), c14]
        unfold plT
        rw [e2, e1, eA, er]
        exact ⟨fun q => q.2.2.2, fun q => ⟨⟨q0, by omega, q2', by omega⟩, fun _ => q1, fun z => absurd hX z, q⟩⟩
      · have e2 : plP2 (M 99) = plX (M 99) + 8 * plNX (M 99) := if_pos hX
        rw [ct_next (by omega) (by omega), c14]
        unfold plT
        rw [e2, e1, eA, er]
        exact ⟨fun q => ⟨q.2.2.1 hX, q.2.2.2⟩, fun q => ⟨⟨q0, by omega, q2', by omega⟩, fun _ => q1, fun _ => q.1, q.2⟩⟩
    · have NT : ¬ plT (M 99) := by
        intro q
        apply h3
        refine ⟨?_, ?_⟩
        · have := q.1.2.2.1
          rw [eB] at this
          exact this
        · have := q.2.1 hf1
          rw [eB] at this
          exact this
      rw [e3]
      refine ⟨by omega, fun w2 => X62 0 NT, fun w2 => ?_⟩
      exact ⟨by omega, fun _ => X62 0 NT, fun w3 => absurd rfl w3⟩
end PLACES2
