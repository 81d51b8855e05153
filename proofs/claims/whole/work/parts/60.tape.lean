/-! CONTRACTS: tape and out -/
section TAPE
variable {d nx sl : Nat} {K : Option TV → FH → Prop} {sh : Nat → Option Shp} {M : FM}
/-- a byte of a number -/
def by1 (x q : Int) : Int := (x / q + 128) % 256 - 128
def tb4 (f : Int → Int) (t x : Int) : Int → Int := ur (ur (ur (ur f t (by1 x 16777216)) (t + 1) (by1 x 65536)) (t + 2) (by1 x 256)) (t + 3) ((x + 128) % 256 - 128)
/-- four bytes behind the reference's tape -/
def mt4 (M : FM) (x : Int) : FM := um (um M 169 (tb4 (M 169) (M 168 1) x)) 168 (ur (M 168) 1 (M 168 1 + 4))
theorem mfeedInt {x : Int} (hx : -2147483648 ≤ x ∧ x ≤ 2147483647) (h0 : 0 ≤ M 168 1) (h1 : M 168 1 + 4 ≤ 16384) (k : K none (sh, mt4 M x, nx, sl)) : fm_Y (d + 1) 240 [.ref 168, .int (Int32.ofInt x)] (sh, M, nx, sl) K := by
  refine m240 [fx 168, ti x] ?_
  have B : ∀ (M2 : FM) (s : Int), 0 ≤ M2 168 1 → M2 168 1 < 16384 → 0 ≤ s → s ≤ 24 → fm_X d kd240 3 [some (fx 168), some (ti x), some (ti (s + -8))] [] (sh, um (um M2 169 (ur (M2 169) (M2 168 1) ((x / 2 ^ s.toNat + 128) % 256 - 128))) 168 (ur (M2 168) 1 (M2 168 1 + 1)), nx, sl) K → fm_X d kd240 3 [some (fx 168), some (ti x), some (ti s)] [] (sh, M2, nx, sl) K := by
    intro M2 s e1 e2 e3 e4 q
    refine s240_3 d K _ _ _ ?_
    refine ⟨by omega, fun hc => absurd hc (by omega), fun hc => ?_⟩
    refine ⟨by omega, ?_⟩
    refine ⟨⟨e1, e2⟩, ?_⟩
    exact q
  refine B M 24 (by omega) (by omega) (by omega) (by omega) ?_
  refine B _ 16 (by show 0 ≤ M 168 1 + 1; omega) (by show M 168 1 + 1 < 16384; omega) (by omega) (by omega) ?_
  refine B _ 8 (by show 0 ≤ M 168 1 + 1 + 1; omega) (by show M 168 1 + 1 + 1 < 16384; omega) (by omega) (by omega) ?_
  refine B _ 0 (by show 0 ≤ M 168 1 + 1 + 1 + 1; omega) (by show M 168 1 + 1 + 1 + 1 < 16384; omega) (by omega) (by omega) ?_
  refine s240_3 d K _ _ _ ?_
  refine ⟨by omega, fun hc => ?_, fun hc => absurd hc (by omega)⟩
  sorry
theorem mend {n : Int} (hn : -2147483648 ≤ n ∧ n ≤ 2147483647) (h0 : 0 ≤ M 168 1) (h1 : M 168 1 ≤ 16384)
    (k1 : (M 168 2 % 2 = 0 ∨ n < 0 ∨ 20 < n) → K (some (ti (-1))) (sh, M, nx, sl))
    (k2 : M 168 2 % 2 ≠ 0 → 0 ≤ n → n ≤ 20 → K (some (ti (M 168 1 - 20 + n))) (sh, um M 168 (ur (ur (M 168) 1 (M 168 1 - 20 + n)) 2 0), nx, sl)) : fm_Y (d + 1) 241 [.ref 168, .int (Int32.ofInt n)] (sh, M, nx, sl) K := by
  refine m241 [fx 168, ti n] ?_
  refine ⟨by omega, fun hc => k1 (Or.inl hc), fun hc => ?_⟩
  refine ⟨by omega, fun h2 => k1 (by omega), fun h2 => ?_⟩
  refine ⟨by omega, fun h3 => ?_, fun h3 => k1 (by omega)⟩
  refine ⟨by omega, ?_⟩
  have e := k2 hc h2 h3
  rw [← um_um M 168 (ur (M 168) 1 (M 168 1 - 20 + n))] at e
  exact e
end TAPE
