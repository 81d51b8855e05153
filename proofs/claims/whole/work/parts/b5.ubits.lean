/-! UNPACKING, the class: its state; bits -/
abbrev St := Option (Int × List Int)
/-- what stays while a row is unpacked -/
def uC (sh : Nat → Option Shp) (M0 : FM) (sc mc nS nM : Nat) : Prop := ((M0 129 0 = sc ∧ M0 129 3 = mc) ∧ shp sh sc = some (.inl (.byte, nS)) ∧ shp sh mc = some (.inl (.byte, nM))) ∧ (sc ≠ mc ∧ (sc < 129 ∨ 165 < sc) ∧ (mc < 129 ∨ 165 < mc) ∧ 3 ≤ mc) ∧ (nS ≤ 131072 ∧ nM ≤ 131072) ∧ (0 ≤ M0 129 2 ∧ M0 129 2 ≤ 8 * nS) ∧ (0 ≤ M0 129 4 ∧ M0 129 4 ≤ M0 129 6 ∧ M0 129 6 ≤ nM) ∧ (0 ≤ M0 129 7 ∧ M0 129 7 ≤ 32768)
def uK (M0 M : FM) (mc : Nat) : Prop := (∀ i : Int, i ≠ 1 → i ≠ 5 → i ≠ 8 → i ≠ 15 → i ≠ 16 → M 129 i = M0 129 i) ∧ (∀ j : Int, (j < M0 129 4 ∨ M0 129 6 ≤ j) → M mc j = M0 mc j) ∧ ∀ c : Nat, c ≠ 129 → c ≠ mc → (c < 130 ∨ 150 < c) → c ≠ 165 → M c = M0 c
def uR (M0 M : FM) (mc : Nat) : St → Prop
  | some (p, o) => uK M0 M mc ∧ (M 129 1 = p ∧ M 129 8 % 2 = 0 ∧ M 129 5 = M0 129 4 + o.length ∧ sl (M mc) (M0 129 4) o.length = o) ∧ (0 ≤ p ∧ p ≤ M0 129 2) ∧ M0 129 4 + o.length ≤ M0 129 6
  | none => uK M0 M mc ∧ M 129 8 % 2 = 1
/-- only the reading place and the mark have changed -/
def uk2 (M M2 : FM) : Prop := (∀ c : Nat, c ≠ 129 → M2 c = M c) ∧ ∀ i : Int, i ≠ 1 → i ≠ 8 → M2 129 i = M 129 i
theorem uk2_r (M : FM) : uk2 M M := ⟨fun _ _ => rfl, fun _ _ _ => rfl⟩
theorem uk2_t {M M2 M3 : FM} (h : uk2 M M2) (g : uk2 M2 M3) : uk2 M M3 := ⟨fun c hc => (g.1 c hc).trans (h.1 c hc), fun i h1 h8 => (g.2 i h1 h8).trans (h.2 i h1 h8)⟩
theorem uK_2 {M0 M M2 : FM} {mc : Nat} (h : uK M0 M mc) (hm : mc ≠ 129) (g : uk2 M M2) : uK M0 M2 mc := ⟨fun i a b c d e => (g.2 i a c).trans (h.1 i a b c d e), fun j hj => by rw [g.1 mc hm]; exact h.2.1 j hj, fun c a b d e => (g.1 c a).trans (h.2.2 c a b d e)⟩
theorem uR_K {M0 M : FM} {mc : Nat} {st : St} (h : uR M0 M mc st) : uK M0 M mc := by
  cases st with
  | none => exact h.1
  | some q => exact h.1
def bS (f : Int → Int) (E : Int) (n : Nat) : St → Int × St
  | some (p, o) => if p + n ≤ E then (bv f p n, some (p + n, o)) else (0, none)
  | none => (0, none)
section UBITS
variable {d nx zl : Nat} {K : Option TV → FH → Prop} {sh : Nat → Option Shp} {M0 M : FM} {sc mc nS nM : Nat} {st : St}
theorem uX_fail {K2 : FM → Prop} (hmc : mc ≠ 129) (hK : uK M0 M mc) (k : ∀ M2 : FM, uR M0 M2 mc none → uk2 M M2 → K2 M2) : K2 (um M 129 (ur (M 129) 8 1)) := by
  have g : uk2 M (um M 129 (ur (M 129) 8 1)) := ⟨fun c hc => um_ne hc, fun i _ h8 => by rw [um_at, ur_ne h8]⟩
  refine k _ ⟨uK_2 hK hmc g, ?_⟩ g
  rw [um_at, ur_at]
  rfl
theorem bits_Y {n : Nat} (hC : uC sh M0 sc mc nS nM) (hR : uR M0 M mc st) (hn : n ≤ 16) (k : ∀ M2 : FM, uR M0 M2 mc (bS (M0 sc) (M0 129 2) n st).2 → uk2 M M2 → K (some (ti (bS (M0 sc) (M0 129 2) n st).1)) (sh, M2, nx, zl)) : fm_Y (d + 1) 140 [.ref 129, .int (Int32.ofInt n)] (sh, M, nx, zl) K := by
  obtain ⟨⟨⟨u1, u2⟩, u3, u4⟩, ⟨u5, u6, u7, u8⟩, ⟨u9, u10⟩, ⟨u11, u12⟩, u13, u14⟩ := hC
  have hmc : mc ≠ 129 := by omega
  have hK := uR_K hR
  have e2 : M 129 2 = M0 129 2 := hK.1 2 (by omega) (by omega) (by omega) (by omega) (by omega)
  have e0 : M 129 0 = M0 129 0 := hK.1 0 (by omega) (by omega) (by omega) (by omega) (by omega)
  have es : M sc = M0 sc := hK.2.2 sc (by omega) u5 (by omega) (by omega)
  refine m140 [fx 129, ti n] ?_
  cases st with
  | none =>
    have hf : M 129 8 % 2 = 1 := hR.2
    refine ⟨by omega, fun w => ?_, fun w => by omega⟩
    refine ⟨Or.inr rfl, ?_⟩
    exact uX_fail (K2 := fun M2 => K (some (ti 0)) (sh, M2, nx, zl)) hmc hK (fun M2 h g => k M2 h g)
  | some q =>
    obtain ⟨p, o⟩ := q
    obtain ⟨-, ⟨r1, r2, r3, r4⟩, ⟨r5, r6⟩, r7⟩ := hR
    refine ⟨by omega, fun w => by omega, fun w => ?_⟩
    by_cases hin : p + n ≤ M0 129 2
    · have eb : bS (M0 sc) (M0 129 2) n (some (p, o)) = (bv (M0 sc) p n, some (p + n, o)) := if_pos hin
      rw [eb] at k
      refine ⟨by omega, fun w2 => ?_, fun w2 => by omega⟩
      have L : ∀ (N : Nat) (j : Nat) (M2 : FM), n - j < N → j ≤ n → M2 129 1 = p + j → uk2 M M2 → M2 129 8 = M 129 8 → fm_X d kd140 31 [some (fx 129), some (ti n), some (ti (bv (M0 sc) p j)), some (ti j)] [] (sh, M2, nx, zl) K := by
        intro N
        induction N with
        | zero => intro j M2 q1; omega
        | succ N ih =>
          intro j M2 q1 q2 q3 q4 q5
          have f0 : M2 129 0 = sc := by rw [q4.2 0 (by omega) (by omega), e0, u1]
          have fs : M2 sc = M0 sc := by rw [q4.1 sc (by omega), es]
          refine s140_31 d K _ _ _ ?_
          refine ⟨by omega, fun w3 => ?_, fun w3 => ?_⟩
          · have ej : j = n := by omega
            rw [ej] at q3 ⊢
            refine k M2 ⟨uK_2 hK hmc q4, ⟨q3, by rw [q5]; exact r2, by rw [q4.2 5 (by omega) (by omega)]; exact r3, by rw [q4.1 mc hmc]; exact r4⟩, by omega, r7⟩ q4
          · have hj : j < n := by omega
            refine ⟨fun m e => ?_, fun w4 => by omega⟩
            have em : m = sc := by omega
            subst em
            refine ⟨by omega, ?_⟩
            refine ⟨nS, u3, by omega, ?_⟩
            refine ⟨by omega, ?_⟩
            refine ⟨by omega, ?_⟩
            have hbv := bv_rng (M0 m) p j
            refine ⟨_, i32_or (k := j) (by omega) (p := 2 ^ ((j : Int)).toNat) (by rw [Int.toNat_natCast]) rfl hbv.1 (by rw [Int.toNat_natCast]; exact hbv.2), ?_⟩
            obtain ⟨R, gR⟩ : ∃ R : FM, R = um M2 129 (ur (M2 129) 1 (M2 129 1 + 1)) := ⟨_, rfl⟩
            have g : uk2 M2 R := ⟨fun c hc => by rw [gR, um_ne hc], fun i h1 _ => by rw [gR, um_at, ur_ne h1]⟩
            have z := ih (j + 1) R (by omega) (by omega) (by rw [gR, um_at, ur_at, q3]; omega) (uk2_t q4 g) (by rw [gR, um_at, ur_ne (by omega)]; exact q5)
            have ev : bv (M0 m) p (j + 1) = bv (M0 m) p j + ((M2 m (M2 129 1 / 8) + 128) % 256 - 128) / 2 ^ (M2 129 1 % 8).toNat % 2 * 2 ^ ((j : Int)).toNat := by
              rw [fs, bt_byte, q3, Int.toNat_natCast]
              rfl
            rw [ev, gR] at z
            exact z
      have z := L (n + 1) 0 M (by omega) (by omega) (by rw [r1]; show p = p + 0; omega) (uk2_r M) rfl
      exact z
    · have eb : bS (M0 sc) (M0 129 2) n (some (p, o)) = (0, none) := if_neg hin
      rw [eb] at k
      refine ⟨by omega, fun w2 => by omega, fun w2 => ?_⟩
      refine ⟨Or.inr rfl, ?_⟩
      exact uX_fail (K2 := fun M2 => K (some (ti 0)) (sh, M2, nx, zl)) hmc hK (fun M2 h g => k M2 h g)
end UBITS
