/-! MOUNTING: where the parts lie; the reference -/
section MPLACES
variable {d nx zl : Nat} {K : Option TV → FH → Prop} {sh : Nat → Option Shp} {M : FM}
theorem mpieceEnd_Y {p m : Int} (hp : 0 ≤ p ∧ p ≤ 200000) (hm : 0 ≤ m ∧ m ≤ 131072) (k : K (some (ti (pE (M 211) p m))) (sh, M, nx, zl)) : fm_Y (d + 3) 324 [.ref 168, .int (Int32.ofInt p), .int (Int32.ofInt m)] (sh, M, nx, zl) K := by
  refine m324 [fx 168, ti p, ti m] ?_
  unfold pE at k
  refine ⟨by omega, fun w => ?_, fun w => ?_⟩
  · refine t2_Y (by omega) (fun l2 => ?_)
    refine ⟨by omega, fun w2 => ?_, fun w2 => ?_⟩
    · rw [if_neg (by omega)] at k
      exact k
    · refine ⟨by omega, fun w3 => ?_, fun w3 => ?_⟩
      · rw [if_neg (by omega)] at k
        exact k
      · refine ⟨by omega, fun w4 => ?_, fun w4 => ?_⟩
        · rw [if_neg (by omega)] at k
          exact k
        · rw [if_pos (by omega)] at k
          exact k
  · rw [if_neg (by omega)] at k
    exact k
theorem pE_rng (f : Int → Int) (p m : Int) (hp : 0 ≤ p) : pE f p m = -1 ∨ (p + 3 ≤ pE f p m ∧ pE f p m ≤ m) := by
  unfold pE
  split <;> omega
theorem arePieces_Y {a m : Int} (ha : 0 ≤ a ∧ a ≤ m) (hm : m ≤ 131072) (k : ∀ z : Int, (z = 1 ∧ pcs (M 211) a m ∨ z = 0 ∧ ¬ pcs (M 211) a m) → K (some (ti z)) (sh, M, nx, zl)) : fm_Y (d + 4) 323 [.ref 168, .int (Int32.ofInt a), .int (Int32.ofInt m)] (sh, M, nx, zl) K := by
  refine m323 [fx 168, ti a, ti m] ?_
  have L : ∀ (g : Nat) (p : Int), m - p < g → (pcs (M 211) a m ↔ pcG (M 211) m g p) → 0 ≤ p → p ≤ m → fm_X (d + 3) kd323 2 [some (fx 168), some (ti a), some (ti m), some (ti p)] [] (sh, M, nx, zl) K := by
    intro g
    induction g with
    | zero => intro p b1 b4 b5 b6; omega
    | succ g ih =>
      intro p b1 b4 b5 b6
      have e : pcG (M 211) m (g + 1) p ↔ (p = m ∨ (0 ≤ p ∧ p < m ∧ pcG (M 211) m g (pE (M 211) p m))) := Iff.rfl
      refine s323_2 (d + 3) K _ _ _ ?_
      refine ⟨by omega, fun w2 => by omega, fun w2 => ?_⟩
      refine ⟨by omega, fun w3 => ?_, fun w3 => ?_⟩
      · refine ⟨by omega, fun w => by omega, fun _ => ⟨Or.inr rfl, k 1 (Or.inl ⟨rfl, b4.2 (e.2 (Or.inl (by omega)))⟩)⟩⟩
      · refine mpieceEnd_Y (by omega) (by omega) ?_
        have b4' : pcs (M 211) a m ↔ pcG (M 211) m g (pE (M 211) p m) := b4.trans (e.trans ⟨fun h => h.elim (fun z => by omega) (fun z => z.2.2), fun h => Or.inr ⟨b5, by omega, h⟩⟩)
        rcases pE_rng (M 211) p m b5 with c | c
        · rw [c] at b4' ⊢
          refine s323_2 (d + 3) K _ _ _ ?_
          refine ⟨by omega, fun w4 => ?_, fun w4 => by omega⟩
          refine ⟨by omega, fun w5 => ⟨Or.inl rfl, k 0 (Or.inr ⟨rfl, fun h => ?_⟩)⟩, fun w5 => by omega⟩
          have h2 := b4'.1 h
          cases g with
          | zero => exact h2
          | succ g =>
            rcases h2 with h2 | h2
            · omega
            · omega
        · exact ih _ (by omega) b4' (by omega) c.2
  exact L (m.toNat + 1) a (by omega) Iff.rfl ha.1 ha.2
theorem isList_Y {t : Int} {n : Nat} (ht : -9223372036854775808 ≤ t ∧ t ≤ 9223372036854775807) (hn : n ≤ 100) (hu : 0 ≤ M 168 97 ∧ M 168 97 ≤ 131072) (k : ∀ z : Int, (z = 1 ∧ (0 ≤ t ∧ t ≤ M 168 97 - 8 * n) ∨ z = 0 ∧ ¬ (0 ≤ t ∧ t ≤ M 168 97 - 8 * n)) → K (some (ti z)) (sh, M, nx, zl)) : fm_Y (d + 1) 322 [.ref 168, .long (Int64.ofInt t), .int (Int32.ofInt n)] (sh, M, nx, zl) K := by
  refine m322 [fx 168, tj t, ti n] ?_
  refine ⟨by omega, fun w => ⟨Or.inl rfl, k 0 (Or.inr ⟨rfl, by omega⟩)⟩, fun w => ?_⟩
  refine ⟨by omega, ?_⟩
  refine ⟨by omega, ?_⟩
  refine ⟨by omega, fun w2 => ⟨Or.inl rfl, k 0 (Or.inr ⟨rfl, by omega⟩)⟩, fun w2 => ⟨Or.inr rfl, k 1 (Or.inl ⟨rfl, by omega⟩)⟩⟩
theorem piecesFor_Y {H : FH} {x y : Int} (h : 0 ≤ x * y ∧ x * y ≤ 100000) (k : K (some (ti ((x * y + 8191) / 8192))) H) : fm_Y (d + 1) 326 [.int (Int32.ofInt x), .int (Int32.ofInt y)] H K := by
  refine m326 [ti x, ti y] ?_
  refine ⟨by omega, ?_⟩
  rw [show x * y + 8192 - 1 = x * y + 8191 by omega]
  exact k
theorem mtableEnd_Y {a t x y : Int} {n : Nat} (ha : 0 ≤ a ∧ a ≤ 200000) (ht : -9223372036854775808 ≤ t ∧ t ≤ 9223372036854775807) (hxy : 1 ≤ x * y ∧ x * y ≤ 65536) (hn : (n : Int) = (x * y + 8191) / 8192) (hu : 0 ≤ M 168 97 ∧ M 168 97 ≤ 131072)
    (k : ∀ r : Int, (tbP (M 211) (M 168 97) t n a ∧ r = t + 8 * n ∨ ¬ tbP (M 211) (M 168 97) t n a ∧ r = -1) → K (some (ti r)) (sh, M, nx, zl)) : fm_Y (d + 4) 325 [.ref 168, .int (Int32.ofInt a), .long (Int64.ofInt t), .int (Int32.ofInt x), .int (Int32.ofInt y)] (sh, M, nx, zl) K := by
  refine m325 [fx 168, ti a, tj t, ti x, ti y] ?_
  refine piecesFor_Y (by omega) ?_
  rw [← hn]
  have hn9 : 1 ≤ n ∧ n ≤ 9 := by omega
  have NO : ¬ tbP (M 211) (M 168 97) t n a → K (some (ti (-1))) (sh, M, nx, zl) := fun h => k (-1) (Or.inr ⟨h, rfl⟩)
  refine isList_Y ht (by omega) hu (fun z hz => ?_)
  rcases hz with ⟨z1, z2⟩ | ⟨z1, z2⟩
  · rw [z1]
    refine ⟨by omega, fun _ => ?_, fun q => by omega⟩
    have L : ∀ (g : Nat) (j p : Int), j + g = n → 0 ≤ j → 0 ≤ p → p ≤ 200000 → (tbP (M 211) (M 168 97) t n a ↔ tbG (M 211) t g j p) → fm_X (d + 3) kd325 27 [some (fx 168), some (ti a), some (tj t), none, some (ti x), some (ti y), some (ti n), some (ti p), some (ti j)] [] (sh, M, nx, zl) K := by
      intro g
      induction g with
      | zero =>
        intro j p c1 c2 c3 c4 c5
        refine s325_27 (d + 3) K _ _ _ ?_
        refine ⟨by omega, fun w => ?_, fun w => by omega⟩
        have e0 : tbG (M 211) t 0 j p ↔ p = t := Iff.rfl
        refine ⟨by omega, ?_⟩
        refine ⟨by omega, fun w5 => NO (fun h => w5 (e0.1 (c5.1 h))), fun w5 => ?_⟩
        exact k (t + 8 * n) (Or.inl ⟨c5.2 (e0.2 w5), rfl⟩)
      | succ g ih =>
        intro j p c1 c2 c3 c4 c5
        have e1 : tbG (M 211) t (g + 1) j p ↔ (s64 (le (M 211) (t + 8 * j) 8) = p ∧ 0 ≤ pE (M 211) p t ∧ tbG (M 211) t g (j + 1) (pE (M 211) p t)) := Iff.rfl
        refine s325_27 (d + 3) K _ _ _ ?_
        refine ⟨by omega, fun w => by omega, fun w => ?_⟩
        refine t8_Y (by omega) (fun l8 => ?_)
        refine ⟨by omega, ?_⟩
        refine ⟨by omega, fun w2 => ?_, fun w2 => NO (fun h => w2 (e1.1 (c5.1 h)).1)⟩
        refine mpieceEnd_Y (by omega) (by omega) ?_
        rcases pE_rng (M 211) p t c3 with c | c
        · rw [c]
          refine ⟨by omega, fun w3 => by omega, fun w3 => NO (fun h => ?_)⟩
          have := (e1.1 (c5.1 h)).2.1
          omega
        · refine ⟨by omega, fun w3 => ?_, fun w3 => by omega⟩
          exact ih (j + 1) _ (by omega) (by omega) (by omega) (by omega) (c5.trans (e1.trans ⟨fun h => h.2.2, fun h => ⟨w2, by omega, h⟩⟩))
    exact L n 0 a (by omega) (by omega) (by omega) (by omega) ⟨fun h => h.2.2, fun h => ⟨z2.1, z2.2, h⟩⟩
  · rw [z1]
    refine ⟨by omega, fun q => absurd rfl q, fun _ => NO (fun h => z2 ⟨h.1, h.2.1⟩)⟩
theorem arePlaces_Y {s : Int} (hs : 0 ≤ s ∧ s ≤ 131072) (hsu : suP (M 211) s) (hc : suM (M 211) M) (k : ∀ z : Int, (z = 1 ∧ plP (M 211) ∨ z = 0 ∧ ¬ plP (M 211)) → K (some (ti z)) (sh, M, nx, zl)) : fm_Y (d + 5) 321 [.ref 168] (sh, M, nx, zl) K := by
  obtain ⟨s0, -, -, ⟨s1, s2, s3⟩, s4, s5⟩ := hsu
  obtain ⟨⟨c92, c93, c94, c95⟩, ⟨c96, c97, c98, c99⟩, c100, c101, c102⟩ := hc
  have l16 := le_nn (M 211) 4 16
  have hU : plU (M 211) = s64 (le (M 211) 40 8) := rfl
  have hu : 0 ≤ M 168 97 ∧ M 168 97 ≤ 131072 := by omega
  have nF : (plNF (M 211) : Int) = (16 * le (M 211) 16 4 + 8191) / 8192 := by
    unfold plNF
    omega
  have nX : (plNX (M 211) : Int) = (8 * le (M 211) 4 4 + 8191) / 8192 := by
    unfold plNX
    omega
  have nI : (plNI (M 211) : Int) = (4 * le (M 211) 26 2 + 8191) / 8192 := by
    unfold plNI
    omega
  have e97 : M 168 97 = plU (M 211) := c97
  have e100 : M 168 100 = plF (M 211) := c100
  have e101 : M 168 101 = plX (M 211) := c101
  have e102 : M 168 102 = plI (M 211) := c102
  have rF := s64_r (le (M 211) 80 8)
  have rX := s64_r (le (M 211) 88 8)
  have rI := s64_r (le (M 211) 48 8)
  have rF' : -9223372036854775808 ≤ plF (M 211) ∧ plF (M 211) ≤ 9223372036854775807 := rF
  have rX' : -9223372036854775808 ≤ plX (M 211) ∧ plX (M 211) ≤ 9223372036854775807 := rX
  have rI' : -9223372036854775808 ≤ plI (M 211) ∧ plI (M 211) ≤ 9223372036854775807 := rI
  refine m321 [fx 168] ?_
  have NO : ¬ plP (M 211) → K (some (ti 0)) (sh, M, nx, zl) := fun h => k 0 (Or.inr ⟨rfl, h⟩)
  -- behind the choice of the first list
  have GO : ∀ t : Int, t = plA (M 211) → b321_36 (d + 4) (fW (d + 4) kd321 K) K [some (fx 168), none, none, none] [tj t] (sh, M, nx, zl) := by
    intro t ht
    have rt : -9223372036854775808 ≤ t ∧ t ≤ 9223372036854775807 := by
      rw [ht]
      unfold plA
      split
      · exact rF'
      · split
        · exact rX'
        · exact rI'
    refine isList_Y (n := 1) rt (by omega) hu (fun z hz => ?_)
    rcases hz with ⟨z1, z2⟩ | ⟨z1, z2⟩
    · rw [z1]
      refine ⟨by omega, fun q => by omega, fun _ => ?_⟩
      have eB : plB (M 211) = s64 (le (M 211) t 8) := by
        unfold plB
        rw [ht]
      refine t8_Y (by omega) (fun l8 => ?_)
      rw [← eB] at l8 ⊢
      refine ⟨by omega, ?_⟩
      refine ⟨by omega, fun w1 => ⟨Or.inl rfl, NO (fun h => by have := h.1.1.2.2.1; omega)⟩, fun w1 => ?_⟩
      refine t8_Y (by omega) (fun _ => ?_)
      rw [← eB]
      refine ⟨by omega, ?_⟩
      refine ⟨by omega, fun w2 => ?_, fun w2 => ⟨Or.inl rfl, NO (fun h => by have := h.1.1.2.2.2; omega)⟩⟩
      refine t8_Y (by omega) (fun _ => ?_)
      rw [← eB]
      refine arePieces_Y (by omega) (by omega) (fun y hy => ?_)
      rw [c98, c99] at hy
      rcases hy with ⟨y1, y2⟩ | ⟨y1, y2⟩
      · rw [y1]
        refine ⟨by omega, fun q => by omega, fun _ => ?_⟩
        refine arePieces_Y (by omega) (by omega) (fun x hx => ?_)
        rw [c99] at hx
        rcases hx with ⟨x1, x2⟩ | ⟨x1, x2⟩
        · rw [x1]
          refine ⟨by omega, fun _ => ?_, fun q => by omega⟩
          -- the tables
          have RG : 0 ≤ plA (M 211) ∧ plA (M 211) ≤ plU (M 211) - 8 ∧ s64 (le (M 211) 72 8) ≤ plB (M 211) ∧ plB (M 211) ≤ plU (M 211) := by
            rw [← ht]
            omega
          have X175 : ∀ r : Int, r = -1 → ¬ plP (M 211) → b321_175 (d + 4) (fW (d + 4) kd321 K) K [some (fx 168), some (tj t), none, some (ti r)] [] (sh, M, nx, zl) := by
            intro r hr hno
            exact ⟨by omega, fun _ => ⟨Or.inl rfl, NO hno⟩, fun w => by omega⟩
          have C175 : ∀ r : Int, r = plP2 (M 211) → (0 ≤ r ∧ r ≤ 200000) → (0 < le (M 211) 16 4 → tbP (M 211) (plU (M 211)) (plF (M 211)) (plNF (M 211)) (plB (M 211))) → (plX (M 211) ≠ -1 → tbP (M 211) (plU (M 211)) (plX (M 211)) (plNX (M 211)) (plP1 (M 211))) → b321_175 (d + 4) (fW (d + 4) kd321 K) K [some (fx 168), some (tj t), none, some (ti r)] [] (sh, M, nx, zl) := by
            intro r hr rr t1 t2
            refine ⟨by omega, fun w => by omega, fun w => ?_⟩
            refine mtableEnd_Y (n := plNI (M 211)) rr (by rw [e102]; exact rI') (by omega) (by omega) hu (fun r3 h3 => ?_)
            rw [e102, e97, hr] at h3
            rcases h3 with ⟨h3, e3⟩ | ⟨h3, e3⟩
            · have b8 := h3.2.1
              have a8 := h3.1
              refine ⟨by omega, fun w2 => ⟨Or.inl rfl, NO (fun h => ?_)⟩, fun w2 => ?_⟩
              · have := h.1.2.2.2.2
                omega
              · exact ⟨Or.inr rfl, k 1 (Or.inl ⟨rfl, ⟨RG, t1, t2, h3, by omega⟩, y2, x2⟩)⟩
            · refine ⟨by omega, fun w2 => ⟨Or.inl rfl, NO (fun h => h3 h.1.2.2.2.1)⟩, fun w2 => by omega⟩
          have C144 : ∀ r : Int, r = plP1 (M 211) → (0 ≤ r ∧ r ≤ 200000) → (0 < le (M 211) 16 4 → tbP (M 211) (plU (M 211)) (plF (M 211)) (plNF (M 211)) (plB (M 211))) → b321_144 (d + 4) (fW (d + 4) kd321 K) K [some (fx 168), some (tj t), none, some (ti r)] [] (sh, M, nx, zl) := by
            intro r hr rr t1
            refine ⟨by omega, fun w => by omega, fun w => ?_⟩
            refine ⟨by omega, fun w2 => ?_, fun w2 => ?_⟩
            · have hX : plX (M 211) = -1 := by rw [← e101]; exact w2
              have e2 : plP2 (M 211) = plP1 (M 211) := if_neg (fun q => q hX)
              exact C175 r (by rw [e2]; exact hr) rr t1 (fun q => absurd hX q)
            · have hX : plX (M 211) ≠ -1 := by rw [← e101]; exact w2
              have e2 : plP2 (M 211) = plX (M 211) + 8 * plNX (M 211) := if_pos hX
              refine mtableEnd_Y (n := plNX (M 211)) rr (by rw [e101]; exact rX') (by omega) (by omega) hu (fun r3 h3 => ?_)
              rw [e101, e97, hr] at h3
              rcases h3 with ⟨h3, e3⟩ | ⟨h3, e3⟩
              · have b8 := h3.2.1
                have a8 := h3.1
                exact C175 r3 (by omega) (by omega) t1 (fun _ => h3)
              · exact X175 r3 e3 (fun h => h3 (h.1.2.2.1 hX))
          refine ⟨by omega, fun w3 => ?_, fun w3 => ?_⟩
          · have hf0 : ¬ 0 < le (M 211) 16 4 := by omega
            have e1 : plP1 (M 211) = plB (M 211) := if_neg hf0
            exact C144 _ e1.symm (by omega) (fun q => absurd q hf0)
          · have hf1 : 0 < le (M 211) 16 4 := by omega
            have e1 : plP1 (M 211) = plF (M 211) + 8 * plNF (M 211) := if_pos hf1
            refine mtableEnd_Y (n := plNF (M 211)) (by omega) (by rw [e100]; exact rF') (by omega) (by omega) hu (fun r3 h3 => ?_)
            rw [e100, e97] at h3
            rcases h3 with ⟨h3, e3⟩ | ⟨h3, e3⟩
            · have b8 := h3.2.1
              have a8 := h3.1
              exact C144 r3 (by omega) (by omega) (fun _ => h3)
            · refine ⟨by omega, fun _ => X175 r3 e3 (fun h => h3 (h.1.2.1 hf1)), fun w4 => by omega⟩
        · rw [x1]
          refine ⟨by omega, fun q => absurd rfl q, fun _ => ⟨Or.inl rfl, NO (fun h => x2 h.2.2)⟩⟩
      · rw [y1]
        refine ⟨by omega, fun _ => ⟨Or.inl rfl, NO (fun h => y2 h.2.1)⟩, fun q => absurd rfl q⟩
    · rw [z1]
      refine ⟨by omega, fun _ => ⟨Or.inl rfl, NO (fun h => z2 ?_)⟩, fun q => absurd rfl q⟩
      rw [ht]
      have := h.1.1
      omega
  refine ⟨by omega, fun w => ?_, fun w => ?_⟩
  · refine ⟨by omega, fun w2 => ?_, fun w2 => ?_⟩
    · refine GO _ ?_
      unfold plA
      rw [if_neg (by omega), if_neg (fun q => q (by rw [← e101]; exact w2)), e102]
    · refine GO _ ?_
      unfold plA
      rw [if_neg (by omega), if_pos (by rw [← e101]; exact w2), e101]
  · refine GO _ ?_
    unfold plA
    rw [if_pos (by omega), e100]
end MPLACES
