/-! THE TREE WITH AN ENTRY LESS: the reference's cells are well made -/
section TREEDEL2
variable {sh : Nat → Option Shp} {M M2 : FM} {p x n : Int} {af ac : Nat}
theorem nwi_lt {p k m : Int} (h : k < m) : nwi p k < nwi p m := by
  unfold nwi
  split <;> split <;> omega
theorem no_entry (hno : cnt (M 183) (M 168 20).toNat x = 0) {k : Int} (h0 : 0 ≤ k) (h1 : k < M 168 20) : M 183 k ≠ x := by
  intro e
  have q := cnt_pos (M 183) x (M 168 20).toNat k.toNat (by omega) (by rw [show ((k.toNat : Nat) : Int) = k by omega]; exact e)
  omega
theorem twR_del (hW : twR M) (hB : delB M M2 p x n af ac) (hp0 : 0 ≤ p) (hp1 : p < M 168 20) (hn : n = M 186 p) (hx : x = M 184 p) (hno : cnt (M 183) (M 168 20).toNat x = 0) : twR M2 := by
  have ND := nm_del hW hB hp0 hp1 hn
  obtain ⟨b1, b2, ⟨b31, b32, b33, b34, b35⟩, b4, b5, b6, b7, b8⟩ := hB
  obtain ⟨w1, w2, w3, w4, w5, w6, w7⟩ := hW
  have k171 := b7 171 (by omega)
  have k172 := b7 172 (by omega)
  have k173 := b7 173 (by omega)
  have k174 := b7 174 (by omega)
  have k175 := b7 175 (by omega)
  have k176 := b7 176 (by omega)
  have k178 := b7 178 (by omega)
  have k179 := b7 179 (by omega)
  have k180 := b7 180 (by omega)
  have w41 := w4.1
  have g2 := (w4.2 p hp0 hp1).2.2.1
  refine ⟨?_, ?_, ?_, ⟨?_, fun k k0 k1 => ?_⟩, ?_, ?_, fun i i0 i1 => ?_⟩
  · unfold twN
    rw [k171, k172, k173, k174, k175, k176, k178, b31]
    exact w1
  · unfold twB
    rw [k171, k179, k180, b31, b32, b33]
    exact w2
  · unfold twD
    rw [k171, k179, k180, b31]
    exact w3
  · rw [b34, b35]
    omega
  · rw [b34] at k1
    obtain ⟨⟨r1, r2, r3⟩, ⟨c1, c2, c3⟩, -, -, c4, -⟩ := ND k k0 k1
    obtain ⟨⟨f1, f2, f3, f4⟩, f5, f6, f7⟩ := w4.2 _ r1 r2
    have hne := no_entry hno r1 r2
    rw [c1, c2, b31, b35, k171, k178]
    refine ⟨⟨f1, f2, ?_, f4⟩, f5, by omega, f7⟩
    unfold live at f3 ⊢
    rw [b5, ur_ne hne]
    exact f3
  · intro k m k0 k1 k2
    rw [b34] at k2
    obtain ⟨⟨r1, r2, r3⟩, ⟨c1, -, -⟩, c2, -⟩ := ND k k0 (by omega)
    obtain ⟨⟨s1, s2, s3⟩, ⟨d1, -, -⟩, d2, -⟩ := ND m (by omega) k2
    unfold ltK
    rw [c1, c2, d1, d2]
    exact w5 _ _ r1 (nwi_lt k1) s2
  · intro k m k0 k1 m0 m1 km
    rw [b34] at k1 m1
    obtain ⟨⟨r1, r2, r3⟩, ⟨-, -, c3⟩, -, -, -, c4⟩ := ND k k0 k1
    obtain ⟨⟨s1, s2, s3⟩, ⟨-, -, d3⟩, -, -, -, d4⟩ := ND m m0 m1
    have hne : nwi p k ≠ nwi p m := by
      by_cases e : k < m
      · have := nwi_lt (p := p) e
        omega
      · have := nwi_lt (p := p) (show m < k by omega)
        omega
    have q := w6 _ _ r1 r2 s1 s2 hne
    rw [c3, d3]
    rcases c4 with ⟨c4, c5⟩ | ⟨c4, c5⟩ <;> rcases d4 with ⟨d4, d5⟩ | ⟨d4, d5⟩ <;> rw [c5, d5] <;> omega
  · rw [b31] at i1
    have hc := w7 i i0 i1
    rw [k171, b34, b5]
    have e1 : (M 168 20 - 1).toNat + 1 = (M 168 20).toNat := by omega
    have e2 : cnt (M2 184) (M 168 20 - 1).toNat i = cnt (del (M 184) p) (M 168 20 - 1).toNat i := cnt_congr i _ (fun k hk => (b1 k (by omega) (by omega)).2.2.1)
    have e3 := cnt_del (M 184) p.toNat i (M 168 20 - 1).toNat (by omega)
    rw [show ((p.toNat : Nat) : Int) = p by omega, e1] at e3
    rw [e2]
    by_cases e : i = x
    · rw [if_pos (by rw [e, hx])] at e3
      rw [e, ur_at]
      rw [e] at hc e3
      refine ⟨by omega, fun h => ?_⟩
      have := hc.2 h
      omega
    · rw [if_neg (fun q => e (by rw [hx]; exact q.symm))] at e3
      rw [ur_ne e]
      exact ⟨by omega, hc.2⟩
end TREEDEL2
