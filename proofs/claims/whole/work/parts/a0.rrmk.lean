/-! THE RELATION AGAIN, after a call that used both tapes up and changed the tree -/
theorem RR_mk {V : FM → Prop} {L : Nat} {xs : Nat → Int32} {k nx nx2 zl zl2 : Nat} {sh sh2 : Nat → Option Shp} {M M2 : FM} (hV : keepsV V) (hR : RR V L xs k (sh, M, nx, zl)) (hT : treeR sh2 M2) (n1 : nx ≤ nx2 ∧ nx2 ≤ nx + 5 ∧ zl2 ≤ zl + 5000) (h0 : sh2 0 = sh 0) (hfr : ∀ c, nx2 ≤ c → sh2 c = none)
    (CC : ∀ c : Nat, c < 265 → c ≠ 17 → c ≠ 3 → c ≠ 4 → (c < 8 ∨ 14 < c) → (c < 168 ∨ 187 < c) → M2 c = M c) (e170 : M2 170 = M 170) (w4 : M2 168 4 = M 168 4) (w27 : ∀ i : Int, 27 ≤ i → M2 168 i = M 168 i) (K1 : M2 168 1 = 0) (K2 : M2 168 2 = 0) (C4 : M2 4 1 = 0) (C5 : M2 3 5 = 0) (C6 : M2 3 6 = M 3 6) (C7 : M2 3 7 = M 3 7) : RR V L xs (k + 1) (sh2, M2, nx2, zl2) := by
  obtain ⟨⟨⟨s1, s2⟩, ⟨s3, s4, s5⟩, s6⟩, ht, ho, -, hv⟩ := hR
  dsimp only at s1 s2 s3 s4 s5 s6 ht ho hv
  obtain ⟨⟨o1, o2⟩, o3, o4⟩ := ho
  refine ⟨⟨⟨?_, ?_⟩, ⟨?_, ?_, ?_⟩, hfr⟩, ⟨?_, ?_, ?_, ?_, ?_⟩, ⟨?_, ?_, ?_⟩, hT, ?_⟩
  · show sh2 0 = _
    rw [h0]
    exact s1
  · show ∀ j : Nat, Int32.ofInt (M2 0 j) = xs j
    rw [CC 0 (by decide) (by decide) (by decide) (by decide) (by decide) (by decide)]
    exact s2
  · show fxN ≤ nx2
    omega
  · show nx2 ≤ 265 + 5 * (k + 1)
    omega
  · show zl2 ≤ 2656208 + 5000 * (k + 1)
    omega
  · show 0 ≤ M2 168 1 ∧ M2 168 1 ≤ 16384
    omega
  · show M2 4 1 = M2 168 1
    omega
  · show sl (M2 5) 0 (M2 168 1).toNat = sl (M2 169) 0 (M2 168 1).toNat
    rw [K1]
    rfl
  · show M2 3 5 % 2 = M2 168 2 % 2
    rw [C5, K2]
  · show M2 168 2 % 2 ≠ 0 → 20 ≤ M2 168 1
    rw [K2]
    exact fun q => absurd rfl q
  · show 0 ≤ M2 168 4 ∧ M2 168 4 ≤ 16384
    rw [w4]
    exact ⟨o1, o2⟩
  · show M2 6 1 = M2 168 4
    rw [w4, CC 6 (by omega) (by omega) (by omega) (by omega) (by omega) (by omega)]
    exact o3
  · show sl (M2 7) 0 (M2 168 4).toNat = sl (M2 170) 0 (M2 168 4).toNat
    rw [w4, CC 7 (by omega) (by omega) (by omega) (by omega) (by omega) (by omega), e170]
    exact o4
  · exact hV M M2 hv ⟨fun c hc => CC c (by omega) (by omega) (by omega) (by omega) (by omega) (by omega), w27, C6, C7⟩
