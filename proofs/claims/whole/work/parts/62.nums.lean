/-! CONTRACTS: numbers in rows of bytes, lowest byte first -/
def le (f : Int → Int) (p : Int) : Nat → Int
  | 0 => 0
  | n + 1 => f p % 256 + 256 * le f (p + 1) n
def s32 (x : Int) : Int := (x + 2147483648) % 4294967296 - 2147483648
def s64 (x : Int) : Int := (x + 9223372036854775808) % 18446744073709551616 - 9223372036854775808
theorem le_nn (f : Int → Int) : ∀ (n : Nat) (p : Int), 0 ≤ le f p n
  | 0, _ => by show (0 : Int) ≤ 0; omega
  | n + 1, p => by
    have h := le_nn f n (p + 1)
    show 0 ≤ f p % 256 + 256 * le f (p + 1) n
    omega
theorem le_2 (f : Int → Int) (p : Int) : le f p 2 = f p % 256 + 256 * (f (p + 1) % 256) := by
  show f p % 256 + 256 * (f (p + 1) % 256 + 256 * 0) = _
  omega
theorem le_4 (f : Int → Int) (p : Int) : le f p 4 = f p % 256 + 256 * (f (p + 1) % 256) + 65536 * (f (p + 2) % 256) + 16777216 * (f (p + 3) % 256) := by
  show f p % 256 + 256 * (f (p + 1) % 256 + 256 * (f (p + 1 + 1) % 256 + 256 * (f (p + 1 + 1 + 1) % 256 + 256 * 0))) = _
  rw [show p + 1 + 1 = p + 2 by omega, show p + 2 + 1 = p + 3 by omega]
  omega
theorem le_lt2 (f : Int → Int) (p : Int) : le f p 2 < 65536 := by rw [le_2]; omega
theorem le_lt4 (f : Int → Int) (p : Int) : le f p 4 < 4294967296 := by rw [le_4]; omega
theorem le_8 (f : Int → Int) (p : Int) : le f p 8 = le f p 4 + 4294967296 * le f (p + 4) 4 := by
  show f p % 256 + 256 * (f (p + 1) % 256 + 256 * (f (p + 1 + 1) % 256 + 256 * (f (p + 1 + 1 + 1) % 256 + 256 * le f (p + 1 + 1 + 1 + 1) 4))) = _
  rw [le_4 f p, show p + 1 + 1 = p + 2 by omega, show p + 2 + 1 = p + 3 by omega, show p + 3 + 1 = p + 4 by omega]
  omega
theorem le_lt8 (f : Int → Int) (p : Int) : le f p 8 < 18446744073709551616 := by
  have h1 := le_lt4 f p
  have h2 := le_lt4 f (p + 4)
  rw [le_8]
  omega
theorem le_congr {f g : Int → Int} : ∀ (n : Nat) (p q : Int), (∀ i : Nat, i < n → f (p + i) % 256 = g (q + i) % 256) → le f p n = le g q n
  | 0, _, _, _ => rfl
  | n + 1, p, q, h => by
    have h0 := h 0 (by omega)
    simp only [Int.natCast_zero, Int.add_zero] at h0
    show f p % 256 + 256 * le f (p + 1) n = g q % 256 + 256 * le g (q + 1) n
    rw [h0, le_congr n (p + 1) (q + 1) (fun i hi => by
      have h1 := h (i + 1) (by omega)
      rw [show p + 1 + (i : Int) = p + ((i + 1 : Nat) : Int) by omega, show q + 1 + (i : Int) = q + ((i + 1 : Nat) : Int) by omega]
      exact h1)]
theorem s64_of (x : Int) : Int64.ofInt x = Int64.ofInt (s64 x) := i64_eqI (by unfold s64; omega)
theorem s64_r (x : Int) : -9223372036854775808 ≤ s64 x ∧ s64 x ≤ 9223372036854775807 := by unfold s64; omega
theorem s32_r (x : Int) : -2147483648 ≤ s32 x ∧ s32 x ≤ 2147483647 := by unfold s32; omega
section NUMS
variable {d nx sl a b n : Nat} {K : Option TV → FH → Prop} {sh : Nat → Option Shp} {M : FM} {x p s o : Int} {f : Int → Int}
/-- the reference's number -/
theorem num_Y {m : Nat} {c : Int} (hs : shp sh a = some (.inl (.byte, n))) (hn : n ≤ 2147483647) (h0 : 0 ≤ p) (hp : p + m ≤ n) (hm : 1 ≤ m) (hc : Int64.ofInt (le (M a) p m) = Int64.ofInt c) (k : K (some (tj c)) (sh, M, nx, sl)) : fm_Y (d + 1) 320 [.ref a, .int (Int32.ofInt p), .int (Int32.ofInt m)] (sh, M, nx, sl) K := by
  refine m320 [gr a, ti p, ti m] ?_
  have L : ∀ (N : Nat) (i v : Int), i < N → 0 ≤ i → i < m → v = le (M a) (p + i + 1) (m - 1 - i).toNat → fm_X d kd320 7 [some (gr a), some (ti p), some (ti m), some (tj v), none, some (ti i)] [] (sh, M, nx, sl) K := by
    intro N
    induction N with
    | zero => intro i v h1 h2; omega
    | succ N ih =>
      intro i v h1 h2 h3 hv
      refine s320_7 d K _ _ _ ?_
      refine ⟨by omega, fun q => by omega, fun q => ?_⟩
      refine ⟨n, hs, by omega, ?_⟩
      refine ⟨by omega, ?_⟩
      have e : le (M a) (p + i) (m - 1 - (i - 1)).toNat = M a (p + i) % 256 + v * 256 := by
        rw [show ((m : Int) - 1 - (i - 1)).toNat = ((m : Int) - 1 - i).toNat + 1 by omega]
        show M a (p + i) % 256 + 256 * le (M a) (p + i + 1) ((m : Int) - 1 - i).toNat = _
        rw [hv]
        omega
      by_cases hj : i = 0
      · subst hj
        refine ⟨c, ?_, ?_⟩
        · rw [← hc]
          refine i64_or2 (k := 8) (by omega) rfl ?_ (by omega) (by omega)
          rw [show ((m : Int) - 1 - (0 - 1)).toNat = m by omega, Int.add_zero] at e
          rw [e, Int.add_zero]
        · refine s320_7 d K _ _ _ ?_
          refine ⟨by omega, fun q => k, fun q => by omega⟩
      · refine ⟨_, i64_or2 (k := 8) (by omega) rfl e (by omega) (by omega), ?_⟩
        exact ih (i + -1) _ (by omega) (by omega) (by omega) (by rw [show p + (i + -1) + 1 = p + i by omega]; rfl)
  exact L m (m - 1) 0 (by omega) (by omega) (by omega) (by rw [show ((m : Int) - 1 - (m - 1)).toNat = 0 by omega]; rfl)
end NUMS
