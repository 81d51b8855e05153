/-! UNPACKING, the reference: its state; bits, a byte -/
def vC (sh : Nat → Option Shp) (M0 : FM) (sc tc nS nT : Nat) : Prop := ((M0 168 50 = sc ∧ M0 168 55 = tc) ∧ shp sh sc = some (.inl (.byte, nS)) ∧ shp sh tc = some (.inl (.byte, nT))) ∧ (sc ≠ tc ∧ (sc ≠ 168 ∧ (sc < 195 ∨ 210 < sc)) ∧ (tc ≠ 168 ∧ (tc < 195 ∨ 210 < tc)) ∧ 3 ≤ tc) ∧ (nS ≤ 131072 ∧ nT ≤ 131072) ∧ (0 ≤ M0 168 51 ∧ 0 ≤ M0 168 52 ∧ M0 168 52 % 8 = 0 ∧ 8 * M0 168 51 + M0 168 52 ≤ 8 * nS) ∧ (0 ≤ M0 168 57 ∧ M0 168 57 ≤ nT)
def vE (M0 : FM) : Int := 8 * M0 168 51 + M0 168 52
def vK (M0 M : FM) (tc : Nat) : Prop := (∀ i : Int, i ≠ 53 → i ≠ 54 → i ≠ 56 → M 168 i = M0 168 i) ∧ (∀ j : Int, (j < 0 ∨ M0 168 57 ≤ j) → M tc j = M0 tc j) ∧ ∀ c : Nat, c ≠ 168 → c ≠ tc → (c < 195 ∨ 210 < c) → M c = M0 c
def vR (M0 M : FM) (tc : Nat) : St → Prop
  | some (p, o) => vK M0 M tc ∧ (M 168 53 = p - 8 * M0 168 51 ∧ M 168 54 % 2 = 0 ∧ M 168 56 = o.length ∧ sl (M tc) 0 o.length = o) ∧ (0 ≤ M 168 53 ∧ M 168 53 ≤ M0 168 52) ∧ o.length ≤ M0 168 57
  | none => vK M0 M tc ∧ M 168 54 % 2 = 1 ∧ (0 ≤ M 168 53 ∧ M 168 53 ≤ M0 168 52)
def wk2 (M M2 : FM) : Prop := (∀ c : Nat, c ≠ 168 → M2 c = M c) ∧ ∀ i : Int, i ≠ 53 → i ≠ 54 → M2 168 i = M 168 i
theorem wk2_r (M : FM) : wk2 M M := ⟨fun _ _ => rfl, fun _ _ _ => rfl⟩
theorem wk2_t {M M2 M3 : FM} (h : wk2 M M2) (g : wk2 M2 M3) : wk2 M M3 := ⟨fun c hc => (g.1 c hc).trans (h.1 c hc), fun i h1 h8 => (g.2 i h1 h8).trans (h.2 i h1 h8)⟩
theorem vK_2 {M0 M M2 : FM} {tc : Nat} (h : vK M0 M tc) (ht : tc ≠ 168) (g : wk2 M M2) : vK M0 M2 tc := ⟨fun i a b c => (g.2 i a b).trans (h.1 i a b c), fun j hj => by rw [g.1 tc ht]; exact h.2.1 j hj, fun c a b d => (g.1 c a).trans (h.2.2 c a b d)⟩
theorem vR_K {M0 M : FM} {tc : Nat} {st : St} (h : vR M0 M tc st) : vK M0 M tc := by
  cases st with
  | none => exact h.1
  | some q => exact h.1
theorem vR_p {M0 M : FM} {tc : Nat} {st : St} (h : vR M0 M tc st) : 0 ≤ M 168 53 ∧ M 168 53 ≤ M0 168 52 := by
  cases st with
  | none => exact h.2.2
  | some q => exact h.2.2.1
def wk3 (M M2 : FM) (tc : Nat) : Prop := (∀ c : Nat, c ≠ 168 → c ≠ tc → M2 c = M c) ∧ ∀ i : Int, i ≠ 53 → i ≠ 54 → i ≠ 56 → M2 168 i = M 168 i
theorem wk3_r (M : FM) (tc : Nat) : wk3 M M tc := ⟨fun _ _ _ => rfl, fun _ _ _ _ => rfl⟩
theorem wk3_t {M M2 M3 : FM} {tc : Nat} (h : wk3 M M2 tc) (g : wk3 M2 M3 tc) : wk3 M M3 tc := ⟨fun c h1 h2 => (g.1 c h1 h2).trans (h.1 c h1 h2), fun i a b c => (g.2 i a b c).trans (h.2 i a b c)⟩
theorem wk2_3 {M M2 : FM} {tc : Nat} (h : wk2 M M2) : wk3 M M2 tc := ⟨fun c h1 _ => h.1 c h1, fun i a b _ => h.2 i a b⟩
section VBITS
variable {d nx zl : Nat} {K : Option TV → FH → Prop} {sh : Nat → Option Shp} {M0 M : FM} {sc tc nS nT : Nat} {st : St}
/-- the mark set to 1, or to 0 where it was so -/
theorem vW1 (ht : tc ≠ 168) (hR : vR M0 M tc st) : vR M0 (um M 168 (ur (M 168) 54 1)) tc none ∧ wk2 M (um M 168 (ur (M 168) 54 1)) := by
  have g : wk2 M (um M 168 (ur (M 168) 54 1)) := ⟨fun c hc => um_ne hc, fun i _ h => by rw [um_at, ur_ne h]⟩
  refine ⟨⟨vK_2 (vR_K hR) ht g, ?_, ?_⟩, g⟩
  · rw [um_at, ur_at]
    rfl
  · rw [um_at, ur_ne (by omega)]
    exact vR_p hR
theorem vW0 (ht : tc ≠ 168) (hR : vR M0 M tc st) (h0 : M 168 54 % 2 = 0) : vR M0 (um M 168 (ur (M 168) 54 0)) tc st ∧ wk2 M (um M 168 (ur (M 168) 54 0)) := by
  have g : wk2 M (um M 168 (ur (M 168) 54 0)) := ⟨fun c hc => um_ne hc, fun i _ h => by rw [um_at, ur_ne h]⟩
  refine ⟨?_, g⟩
  cases st with
  | none =>
    have := hR.2.1
    omega
  | some q =>
    obtain ⟨p, o⟩ := q
    obtain ⟨h1, ⟨h2, h3, h4, h5⟩, h6, h7⟩ := hR
    refine ⟨vK_2 h1 ht g, ⟨?_, ?_, ?_, ?_⟩, ?_, h7⟩
    · rw [um_at, ur_ne (by omega)]
      exact h2
    · rw [um_at, ur_at]
      rfl
    · rw [um_at, ur_ne (by omega)]
      exact h4
    · rw [um_ne ht]
      exact h5
    · rw [um_at, ur_ne (by omega)]
      exact h6
theorem readBit_Y (hC : vC sh M0 sc tc nS nT) (hR : vR M0 M tc st) (k : ∀ M2 : FM, vR M0 M2 tc (bS (M0 sc) (vE M0) 1 st).2 → wk2 M M2 → K (some (ti (bS (M0 sc) (vE M0) 1 st).1)) (sh, M2, nx, zl)) : fm_Y (d + 1) 331 [.ref 168] (sh, M, nx, zl) K := by
  obtain ⟨⟨⟨u1, u2⟩, u3, u4⟩, ⟨u5, ⟨u6, u6b⟩, ⟨u7, u7b⟩, u8⟩, ⟨u9, u10⟩, ⟨u11, u12, u12b, u12c⟩, u13⟩ := hC
  have hK := vR_K hR
  have hp := vR_p hR
  have e52 : M 168 52 = M0 168 52 := hK.1 52 (by omega) (by omega) (by omega)
  have e51 : M 168 51 = M0 168 51 := hK.1 51 (by omega) (by omega) (by omega)
  have e50 : M 168 50 = M0 168 50 := hK.1 50 (by omega) (by omega) (by omega)
  have es : M sc = M0 sc := hK.2.2 sc u6 u5 u6b
  refine m331 [fx 168] ?_
  have F1 : (bS (M0 sc) (vE M0) 1 st) = (0, none) → b331_19 d (fW d kd331 K) K [some (fx 168), none] [fx 168] (sh, M, nx, zl) := by
    intro hb
    rw [hb] at k
    refine ⟨Or.inr rfl, ?_⟩
    obtain ⟨z1, z2⟩ := vW1 u7 hR
    have z3 := z1.2.1
    refine ⟨by omega, fun w => by omega, fun w => ?_⟩
    exact k _ z1 z2
  cases st with
  | none =>
    have hf := hR.2.1
    refine ⟨by omega, fun w => F1 rfl, fun w => by omega⟩
  | some q =>
    obtain ⟨p, o⟩ := q
    have hR0 := hR
    obtain ⟨-, ⟨r1, r2, r3, r4⟩, r5, r7⟩ := hR
    refine ⟨by omega, fun w => by omega, fun w => ?_⟩
    refine ⟨by omega, fun w2 => ?_, fun w2 => ?_⟩
    · have hin : p + (1 : Nat) ≤ vE M0 := by
        unfold vE
        omega
      have eb : bS (M0 sc) (vE M0) 1 (some (p, o)) = (bv (M0 sc) p 1, some (p + 1, o)) := bS_pos hin
      rw [eb] at k
      refine ⟨Or.inl rfl, ?_⟩
      obtain ⟨z1, z2⟩ := vW0 u7 hR0 r2
      obtain ⟨R, gR⟩ : ∃ R : FM, R = um M 168 (ur (M 168) 54 0) := ⟨_, rfl⟩
      rw [← gR] at z1 z2
      have z3 := z1.2.1.2.1
      have a53 : R 168 53 = p - 8 * M0 168 51 := z1.2.1.1
      have a51 : R 168 51 = M0 168 51 := z1.1.1 51 (by omega) (by omega) (by omega)
      have a50 : R 168 50 = sc := by rw [z1.1.1 50 (by omega) (by omega) (by omega), u1]
      have as : R sc = M0 sc := z1.1.2.2 sc u6 u5 u6b
      have TL : o_al 0 (o_get 12 54 54 (o_if .eq (o_al 0 (o_get 12 50 50 (o_al 0 (o_get 12 51 51 (o_al 0 (o_get 12 53 53 (o_ic 8 (o_idiv (o_iadd (o_bald (o_al 0 (o_get 12 53 53 (o_ic 8 (o_irem (o_ishr (o_imask 2 (o_is 1 (o_al 0 (o_dup (o_get 12 53 53 (o_ic 1 (b331_70 d (fW d kd331 K) K)))))))))))))))))))))) (o_ic 0 (o_iret K)))) [some (fx 168), none] [] (sh, R, nx, zl) := by
        refine ⟨by omega, fun _ => ?_, fun z => absurd z3 z⟩
        refine ⟨fun m e => ?_, fun w4 => by omega⟩
        have em : m = sc := by omega
        subst em
        refine ⟨by omega, ?_⟩
        refine ⟨nS, u3, by omega, ?_⟩
        refine ⟨by omega, ?_⟩
        refine ⟨by omega, ?_⟩
        have ev : bv (M0 m) p 1 = ((R m (R 168 51 + R 168 53 / 8) + 128) % 256 - 128) / 2 ^ (R 168 53 % 8).toNat % 2 := by
          have h1 : bv (M0 m) p 1 = bt (M0 m) p := by
            show 0 + bt (M0 m) (p + ((0 : Nat) : Int)) * 2 ^ 0 = _
            rw [show p + ((0 : Nat) : Int) = p by omega]
            show 0 + bt (M0 m) p * 1 = _
            omega
          rw [h1, ← bt_byte (M0 m) p, as, show R 168 51 + R 168 53 / 8 = p / 8 by omega, show R 168 53 % 8 = p % 8 by omega]
        rw [ev] at k
        refine k _ ⟨⟨fun i a b c => ?_, fun j hj => ?_, fun c a b e => ?_⟩, ⟨?_, ?_, ?_, ?_⟩, ?_, r7⟩ ⟨fun c a => ?_, fun i a b => ?_⟩
        · rw [um_at, ur_ne a]
          exact z1.1.1 i a b c
        · rw [um_ne u7]
          exact z1.1.2.1 j hj
        · rw [um_ne a]
          exact z1.1.2.2 c a b e
        · rw [um_at, ur_at]
          omega
        · rw [um_at, ur_ne (by omega)]
          exact z3
        · rw [um_at, ur_ne (by omega)]
          exact z1.2.1.2.2.1
        · rw [um_ne u7]
          exact z1.2.1.2.2.2
        · rw [um_at, ur_at]
          omega
        · rw [um_ne a]
          exact z2.1 c a
        · rw [um_at, ur_ne a]
          exact z2.2 i a b
      rw [gR] at TL
      exact TL
    · refine F1 (bS_neg ?_)
      unfold vE
      omega
theorem bS_step {f : Int → Int} {E : Int} {j : Nat} (h : (bS f E (j + 1) st).2 ≠ none) : (bS f E j st).2 ≠ none := by
  cases st with
  | none => exact h
  | some q =>
    obtain ⟨p, o⟩ := q
    by_cases e : p + ((j + 1 : Nat) : Int) ≤ E
    · rw [bS_pos (show p + (j : Int) ≤ E by omega)]
      intro z
      cases z
    · rw [bS_neg e] at h
      exact absurd rfl h
theorem bS_cat (f : Int → Int) (E : Int) (j : Nat) (st : St) : (bS f E 1 (bS f E j st).2).2 = (bS f E (j + 1) st).2 ∧ ((bS f E (j + 1) st).2 ≠ none → (bS f E (j + 1) st).1 = (bS f E j st).1 + (bS f E 1 (bS f E j st).2).1 * 2 ^ j) := by
  cases st with
  | none => exact ⟨rfl, fun h => absurd rfl h⟩
  | some q =>
    obtain ⟨p, o⟩ := q
    by_cases e : p + ((j + 1 : Nat) : Int) ≤ E
    · rw [bS_pos e, bS_pos (show p + (j : Int) ≤ E by omega)]
      have e1 : bS f E 1 (some (p + (j : Int), o)) = (bv f (p + j) 1, some (p + (j : Int) + (1 : Nat), o)) := bS_pos (by omega)
      refine ⟨?_, fun _ => ?_⟩
      · show (bS f E 1 (some (p + (j : Int), o))).2 = some (p + ((j + 1 : Nat) : Int), o)
        rw [e1, show p + ((j + 1 : Nat) : Int) = p + (j : Int) + ((1 : Nat) : Int) by omega]
      · show bv f p (j + 1) = bv f p j + (bS f E 1 (some (p + (j : Int), o))).1 * 2 ^ j
        rw [e1]
        show bv f p j + bt f (p + j) * 2 ^ j = bv f p j + (0 + bt f (p + (j : Int) + ((0 : Nat) : Int)) * 2 ^ 0) * 2 ^ j
        rw [show p + (j : Int) + ((0 : Nat) : Int) = p + j by omega, show bt f (p + (j : Int)) * 2 ^ 0 = bt f (p + (j : Int)) * 1 from rfl]
        congr 2
        omega
    · rw [bS_neg e]
      refine ⟨?_, fun h => absurd rfl h⟩
      by_cases e2 : p + (j : Int) ≤ E
      · rw [bS_pos e2]
        show (bS f E 1 (some (p + (j : Int), o))).2 = none
        rw [bS_neg (by omega)]
      · rw [bS_neg e2]
        rfl
theorem readNumber_Y {n : Nat} (hC : vC sh M0 sc tc nS nT) (hR : vR M0 M tc st) (hn : n ≤ 16) (k : ∀ (v : Int) (M2 : FM), vR M0 M2 tc (bS (M0 sc) (vE M0) n st).2 → wk2 M M2 → ((bS (M0 sc) (vE M0) n st).2 ≠ none → v = (bS (M0 sc) (vE M0) n st).1) → 0 ≤ v ∧ v < 2 ^ n → K (some (ti v)) (sh, M2, nx, zl)) : fm_Y (d + 2) 330 [.ref 168, .int (Int32.ofInt n)] (sh, M, nx, zl) K := by
  refine m330 [fx 168, ti n] ?_
  have L : ∀ (N j : Nat) (v : Int) (M2 : FM), n - j < N → j ≤ n → (0 ≤ v ∧ v < 2 ^ j) → vR M0 M2 tc (bS (M0 sc) (vE M0) j st).2 → ((bS (M0 sc) (vE M0) j st).2 ≠ none → v = (bS (M0 sc) (vE M0) j st).1) → wk2 M M2 → fm_X (d + 1) kd330 4 [some (fx 168), some (ti n), some (ti v), some (ti j)] [] (sh, M2, nx, zl) K := by
    intro N
    induction N with
    | zero => intro j v M2 h1; omega
    | succ N ih =>
      intro j v M2 h1 h2 h3 h4 h5 h6
      refine s330_4 (d + 1) K _ _ _ ?_
      refine ⟨by omega, fun w => ?_, fun w => ?_⟩
      · have ej : j = n := by omega
        rw [ej] at h3 h4 h5
        exact k v M2 h4 h6 h5 h3
      · refine readBit_Y hC h4 (fun M3 t1 t2 => ?_)
        refine ⟨by omega, ?_⟩
        obtain ⟨c1, c2⟩ := bS_cat (M0 sc) (vE M0) j st
        have rb := bS_rng (M0 sc) (vE M0) 1 (bS (M0 sc) (vE M0) j st).2
        have e21 : (2 : Int) ^ 1 = 2 := by decide
        rw [c1] at t1
        generalize bS (M0 sc) (vE M0) 1 (bS (M0 sc) (vE M0) j st).2 = r1 at c1 c2 rb t1 ⊢
        refine ⟨v + r1.1 * 2 ^ ((j : Int)).toNat, i32_or (k := j) (by omega) (p := 2 ^ ((j : Int)).toNat) (by rw [Int.toNat_natCast]) rfl h3.1 (by rw [Int.toNat_natCast]; exact h3.2), ?_⟩
        refine ih (j + 1) _ M3 (by omega) (by omega) ?_ t1 (fun h => ?_) (wk2_t h6 t2)
        · rw [Int.toNat_natCast, Int.pow_succ]
          have hp := two_pos j
          have hr : r1.1 = 0 ∨ r1.1 = 1 := by omega
          rcases hr with hr | hr
          · rw [hr]
            omega
          · rw [hr]
            omega
        · rw [c2 h, h5 (bS_step h), Int.toNat_natCast]
  have z := L (n + 1) 0 0 M (by omega) (by omega) (by decide) ?_ (fun _ => ?_) (wk2_r M)
  · exact z
  · cases st with
    | none => exact hR
    | some q =>
      obtain ⟨p, o⟩ := q
      have hpE : p + ((0 : Nat) : Int) ≤ vE M0 := by
        have h1 := hR.2.1.1
        have h2 := hR.2.2.1
        unfold vE
        omega
      rw [bS_pos hpE, show p + ((0 : Nat) : Int) = p by omega]
      exact hR
  · cases st with
    | none => rfl
    | some q =>
      obtain ⟨p, o⟩ := q
      by_cases e : p + ((0 : Nat) : Int) ≤ vE M0
      · rw [bS_pos e]
        rfl
      · rw [bS_neg e]
end VBITS
