/-! CONTRACTS: the reference's tape and out -/
/-- the bytes of a number, highest first -/
def by1 (x q : Int) : Int := (x / q + 128) % 256 - 128
def tb4 (f : Int → Int) (t x : Int) : Int → Int := ur (ur (ur (ur f t (by1 x 16777216)) (t + 1) (by1 x 65536)) (t + 2) (by1 x 256)) (t + 3) (by1 x 1)
def tb20 (f : Int → Int) (t a b c e g : Int) : Int → Int := tb4 (tb4 (tb4 (tb4 (tb4 f t a) (t + 4) b) (t + 8) c) (t + 12) e) (t + 16) g
/-- the reference with another tape -/
def mtS (M : FM) (f : Int → Int) (t : Int) : FM := um (um M 169 f) 168 (ur (M 168) 1 t)
theorem mtS_1 (M : FM) (f : Int → Int) (t : Int) : mtS M f t 168 1 = t := rfl
theorem mtS_step (M : FM) (f : Int → Int) (t v : Int) : um (um (mtS M f t) 169 (ur (mtS M f t 169) (mtS M f t 168 1) v)) 168 (ur (mtS M f t 168) 1 (mtS M f t 168 1 + 1)) = mtS M (ur f t v) (t + 1) := by
  funext c j
  by_cases e1 : c = 168
  · subst e1
    by_cases e2 : j = 1 <;> simp [mtS, um, ur, e2]
  · by_cases e2 : c = 169
    · subst e2
      simp [mtS, um, ur]
    · simp [mtS, um, e1, e2]
theorem mtS_self (M : FM) : mtS M (M 169) (M 168 1) = M := by
  unfold mtS
  rw [ur_self, um_self, um_self]
section TAPE
variable {d nx sl : Nat} {K : Option TV → FH → Prop} {sh : Nat → Option Shp} {M : FM}
theorem mfeedInt {x t : Int} {f : Int → Int} (hx : -2147483648 ≤ x ∧ x ≤ 2147483647) (h0 : 0 ≤ t) (h1 : t + 4 ≤ 16384) (k : K none (sh, mtS M (tb4 f t x) (t + 4), nx, sl)) : fm_Y (d + 1) 240 [.ref 168, .int (Int32.ofInt x)] (sh, mtS M f t, nx, sl) K := by
  refine m240 [fx 168, ti x] ?_
  have B : ∀ (f : Int → Int) (t s p : Int), 0 ≤ t → t < 16384 → 0 ≤ s → s ≤ 24 → p = 2 ^ s.toNat → fm_X d kd240 3 [some (fx 168), some (ti x), some (ti (s + -8))] [] (sh, mtS M (ur f t (by1 x p)) (t + 1), nx, sl) K → fm_X d kd240 3 [some (fx 168), some (ti x), some (ti s)] [] (sh, mtS M f t, nx, sl) K := by
    intro f t s p e1 e2 e3 e4 e5 q
    refine s240_3 d K _ _ _ ?_
    refine ⟨by omega, fun hc => absurd hc (by omega), fun hc => ?_⟩
    refine ⟨by omega, ?_⟩
    refine ⟨⟨e1, e2⟩, ?_⟩
    rw [← mtS_step, e5] at q
    exact q
  refine B f t 24 16777216 (by omega) (by omega) (by omega) (by omega) (by decide) ?_
  refine B _ _ 16 65536 (by omega) (by omega) (by omega) (by omega) (by decide) ?_
  refine B _ _ 8 256 (by omega) (by omega) (by omega) (by omega) (by decide) ?_
  refine B _ _ 0 1 (by omega) (by omega) (by omega) (by omega) (by decide) ?_
  refine s240_3 d K _ _ _ ?_
  refine ⟨by omega, fun hc => ?_, fun hc => absurd hc (by omega)⟩
  unfold tb4 at k
  rw [show t + 2 = t + 1 + 1 by omega, show t + 3 = t + 1 + 1 + 1 by omega, show t + 4 = t + 1 + 1 + 1 + 1 by omega] at k
  exact k
theorem mfeed {a b c e g t : Int} {f : Int → Int} (ha : -2147483648 ≤ a ∧ a ≤ 2147483647) (hb : -2147483648 ≤ b ∧ b ≤ 2147483647) (hc : -2147483648 ≤ c ∧ c ≤ 2147483647) (he : -2147483648 ≤ e ∧ e ≤ 2147483647) (hg : -2147483648 ≤ g ∧ g ≤ 2147483647) (h0 : 0 ≤ t) (h1 : t ≤ 16384)
    (k1 : 16364 < t → K (some (ti (-6))) (sh, mtS M f t, nx, sl)) (k2 : t ≤ 16364 → K (some (ti (t + 20))) (sh, um (mtS M (tb20 f t a b c e g) (t + 20)) 168 (ur (ur (M 168) 1 (t + 20)) 2 1), nx, sl)) : fm_Y (d + 2) 239 [.ref 168, .int (Int32.ofInt a), .int (Int32.ofInt b), .int (Int32.ofInt c), .int (Int32.ofInt e), .int (Int32.ofInt g)] (sh, mtS M f t, nx, sl) K := by
  refine m239 [fx 168, ti a, ti b, ti c, ti e, ti g] ?_
  have e0 := mtS_1 M f t
  refine ⟨by omega, fun h2 => ?_, fun h2 => k1 (by omega)⟩
  refine mfeedInt ha (by omega) (by omega) ?_
  refine mfeedInt hb (by omega) (by omega) ?_
  refine mfeedInt hc (by omega) (by omega) ?_
  refine mfeedInt he (by omega) (by omega) ?_
  refine mfeedInt hg (by omega) (by omega) ?_
  refine ⟨Or.inr rfl, ?_⟩
  have q := k2 (by omega)
  unfold tb20 at q
  rw [show t + 20 = t + 4 + 4 + 4 + 4 + 4 by omega, show t + 16 = t + 4 + 4 + 4 + 4 by omega, show t + 12 = t + 4 + 4 + 4 by omega, show t + 8 = t + 4 + 4 by omega] at q
  exact q
theorem mend {n : Int} (hn : -2147483648 ≤ n ∧ n ≤ 2147483647) (h0 : 0 ≤ M 168 1) (h1 : M 168 1 ≤ 16384)
    (k1 : (M 168 2 % 2 = 0 ∨ n < 0 ∨ 20 < n) → K (some (ti (-1))) (sh, M, nx, sl))
    (k2 : M 168 2 % 2 ≠ 0 → 0 ≤ n → n ≤ 20 → K (some (ti (M 168 1 - 20 + n))) (sh, um M 168 (ur (ur (M 168) 1 (M 168 1 - 20 + n)) 2 0), nx, sl)) : fm_Y (d + 1) 241 [.ref 168, .int (Int32.ofInt n)] (sh, M, nx, sl) K := by
  refine m241 [fx 168, ti n] ?_
  refine ⟨by omega, fun hc => k1 (Or.inl hc), fun hc => ?_⟩
  refine ⟨by omega, fun h2 => k1 (by omega), fun h2 => ?_⟩
  refine ⟨by omega, fun h3 => ?_, fun h3 => k1 (by omega)⟩
  refine ⟨Or.inl rfl, ?_⟩
  have e := k2 hc h2 h3
  rw [← um_um M 168 (ur (M 168) 1 (M 168 1 - 20 + n))] at e
  exact e
theorem mout (k : K (some (ti (M 168 4))) (sh, M, nx, sl)) : fm_Y (d + 1) 242 [.ref 168] (sh, M, nx, sl) K := m242 [fx 168] k
end TAPE
