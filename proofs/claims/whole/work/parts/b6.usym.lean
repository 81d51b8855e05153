/-! UNPACKING, the class: a symbol -/
theorem p2_mono : ∀ l m : Nat, l ≤ m → (2 : Int) ^ l ≤ 2 ^ m
  | l, 0, h => by
    rw [show l = 0 by omega]
    exact Int.le_refl _
  | l, m + 1, h => by
    by_cases e : l = m + 1
    · rw [e]
      exact Int.le_refl _
    · have h1 := p2_mono l m (by omega)
      have h2 := two_pos m
      rw [Int.pow_succ]
      omega
theorem p15 {l : Nat} (h : l ≤ 15) : (2 : Int) ^ l ≤ 32768 := p2_mono l 15 h
/-- a code's cells -/
def cdS (sh : Nat → Option Shp) (cc c3 c4 c5 nR : Nat) : Prop := (∃ c0 c1 c2 : Nat, shp sh cc = some (.inr (6, [some (some c0), some (some c1), some (some c2), some (some c3), some (some c4), some (some c5)]))) ∧ (shp sh c3 = some (.inl (.int, nR)) ∧ shp sh c4 = some (.inl (.int, 16)) ∧ shp sh c5 = some (.inl (.int, 17))) ∧ (3 ≤ c3 ∧ 3 ≤ c4 ∧ 3 ≤ c5) ∧ (c3 ≠ c4 ∧ c3 ≠ c5 ∧ c4 ≠ c5) ∧ nR ≤ 288 ∧ (c3 ≠ 129 ∧ c4 ≠ 129 ∧ c5 ≠ 129)
/-- what they hold -/
def cdV (M : FM) (c3 c4 : Nat) (ls : Int → Int) (n : Nat) : Prop := (∀ l : Nat, 1 ≤ l → l ≤ 15 → M c4 l = cnt ls n l) ∧ (∀ (l : Nat) (j : Int), l ≤ 14 → 0 ≤ j → j < cnt ls n (l + 1 : Nat) → M c3 (offL ls n l + j) = nth ls (l + 1 : Nat) j n)
def sS (f : Int → Int) (E : Int) (ls : Int → Int) (n : Nat) : St → Int × St
  | some (p, o) => (match sy f E ls n p with
    | some (s, p1) => (s, some (p1, o))
    | none => (0, none))
  | none => (0, none)
theorem sS_some {f : Int → Int} {E : Int} {ls : Int → Int} {n : Nat} {p s p1 : Int} {o : List Int} (h : sy f E ls n p = some (s, p1)) : sS f E ls n (some (p, o)) = (s, some (p1, o)) := by
  show (match sy f E ls n p with
    | some (s, p1) => (s, some (p1, o))
    | none => (0, none)) = _
  rw [h]
theorem sS_none {f : Int → Int} {E : Int} {ls : Int → Int} {n : Nat} {p : Int} {o : List Int} (h : sy f E ls n p = none) : sS f E ls n (some (p, o)) = (0, none) := by
  show (match sy f E ls n p with
    | some (s, p1) => (s, some (p1, o))
    | none => (0, none)) = _
  rw [h]
section USYM
variable {d nx zl : Nat} {K : Option TV → FH → Prop} {sh : Nat → Option Shp} {M0 M : FM} {sc mc nS nM : Nat} {st : St}
theorem symbol_Y {cc c3 c4 c5 nR n : Nat} {ls : Int → Int} (hC : uC sh M0 sc mc nS nM) (hcd : cdS sh cc c3 c4 c5 nR) (hn : n ≤ nR) (hv : cdV M c3 c4 ls n) (hR : uR M0 M mc st) (k : ∀ M2 : FM, uR M0 M2 mc (sS (M0 sc) (M0 129 2) ls n st).2 → uk2 M M2 → K (some (ti (sS (M0 sc) (M0 129 2) ls n st).1)) (sh, M2, nx, zl)) : fm_Y (d + 1) 143 [.ref 129, .ref cc] (sh, M, nx, zl) K := by
  obtain ⟨⟨⟨u1, u2⟩, u3, u4⟩, ⟨u5, u6, u7, u8⟩, ⟨u9, u10⟩, ⟨u11, u12⟩, u13, u14⟩ := hC
  obtain ⟨⟨c0, c1, c2, hcc⟩, ⟨h3, h4, h5⟩, -, -, hnR, ⟨n3, n4, n5⟩⟩ := hcd
  have hmc : mc ≠ 129 := by omega
  have hK := uR_K hR
  have e2 : M 129 2 = M0 129 2 := hK.1 2 (by omega) (by omega) (by omega) (by omega) (by omega)
  have e0 : M 129 0 = M0 129 0 := hK.1 0 (by omega) (by omega) (by omega) (by omega) (by omega)
  have es : M sc = M0 sc := hK.2.2 sc (by omega) u5 (by omega) (by omega)
  refine m143 [fx 129, gr cc] ?_
  cases st with
  | none =>
    have hf : M 129 8 % 2 = 1 := hR.2
    refine s143_10 d K _ _ _ ?_
    refine ⟨by omega, fun w => by omega, fun w => ?_⟩
    refine ⟨by omega, fun w => ?_, fun w => by omega⟩
    refine ⟨Or.inr rfl, ?_⟩
    exact uX_fail (K2 := fun M2 => K (some (ti 0)) (sh, M2, nx, zl)) hmc hK (fun M2 h g => k M2 h g)
  | some q =>
    obtain ⟨p0, o⟩ := q
    obtain ⟨-, ⟨r1, r2, r3, r4⟩, ⟨r5, r6⟩, r7⟩ := hR
    have L : ∀ (g l : Nat) (v fi p : Int) (M2 : FM) (y6 : Option TV), g + l = 15 → 0 ≤ v → v < 2 ^ l → 0 ≤ fi → fi ≤ 2 * v → 0 ≤ p → p ≤ M0 129 2 → sy (M0 sc) (M0 129 2) ls n p0 = syG (M0 sc) (M0 129 2) ls n g l v fi p → M2 129 1 = p → uk2 M M2 → M2 129 8 = M 129 8 → fm_X d kd143 10 [some (fx 129), some (gr cc), some (ti v), some (ti fi), some (ti (offL ls n l)), some (ti (l + 1)), y6] [] (sh, M2, nx, zl) K := by
      intro g
      induction g with
      | zero =>
        intro l v fi p M2 y6 a1 a2 a3 a4 a5 a6 a7 a8 a9 a10 a11
        refine s143_10 d K _ _ _ ?_
        refine ⟨by omega, fun w => ?_, fun w => by omega⟩
        refine ⟨Or.inr rfl, ?_⟩
        have e : sS (M0 sc) (M0 129 2) ls n (some (p0, o)) = (0, none) := sS_none a8
        rw [e] at k
        exact uX_fail (K2 := fun M3 => K (some (ti 0)) (sh, M3, nx, zl)) hmc (uK_2 hK hmc a10) (fun M3 h g => k M3 h (uk2_t a10 g))
      | succ g ih =>
        intro l v fi p M2 y6 a1 a2 a3 a4 a5 a6 a7 a8 a9 a10 a11
        have hl : l ≤ 14 := by omega
        have hp15 := p15 (show l ≤ 15 by omega)
        have f0 : M2 129 0 = sc := by rw [a10.2 0 (by omega) (by omega), e0, u1]
        have f2 : M2 129 2 = M0 129 2 := by rw [a10.2 2 (by omega) (by omega), e2]
        have fs : M2 sc = M0 sc := by rw [a10.1 sc (by omega), es]
        have hbt := bt_rng (M0 sc) p
        refine s143_10 d K _ _ _ ?_
        refine ⟨by omega, fun w => by omega, fun w => ?_⟩
        refine ⟨by omega, fun w => by omega, fun w => ?_⟩
        refine ⟨by omega, fun w => ?_, fun w => ?_⟩
        · have hlt : p < M0 129 2 := by omega
          refine ⟨fun m e => ?_, fun w4 => by omega⟩
          have em : m = sc := by omega
          subst em
          refine ⟨by omega, ?_⟩
          refine ⟨nS, u3, by omega, ?_⟩
          refine ⟨by omega, ?_⟩
          have eb : ((M2 m (M2 129 1 / 8) + 128) % 256 - 128) / 2 ^ (M2 129 1 % 8).toNat % 2 = bt (M0 m) p := by rw [fs, bt_byte, a9]
          refine ⟨2 * v + bt (M0 m) p, ?_, ?_⟩
          · rw [eb]
            exact i32_or2 (k := 1) (by omega) (p := 2) rfl (by omega) hbt.1 hbt.2
          · obtain ⟨R, gR⟩ : ∃ R : FM, R = um M2 129 (ur (M2 129) 1 (M2 129 1 + 1)) := ⟨_, rfl⟩
            have gg : uk2 M2 R := ⟨fun c hc => by rw [gR, um_ne hc], fun i h1 _ => by rw [gR, um_at, ur_ne h1]⟩
            have gt := uk2_t a10 gg
            have R1 : R 129 1 = p + 1 := by rw [gR, um_at, ur_at, a9]
            have R8 : R 129 8 = M 129 8 := by rw [gR, um_at, ur_ne (by omega)]; exact a11
            have hc4 : R c4 (l + 1) = cnt ls n (l + 1 : Nat) := by
              rw [gt.1 c4 n4]
              exact hv.1 (l + 1) (by omega) (by omega)
            have hcn := cnt_nn ls (l + 1 : Nat) n
            have hof := offL_le ls n l
            have hof2 := offL_le ls n (l + 1)
            have hof0 := offL_mono ls n 0 l (by omega)
            have hof1 : offL ls n (l + 1) = offL ls n l + cnt ls n (l + 1 : Nat) := rfl
            have hof3 : (0 : Int) ≤ offL ls n l := hof0
            have hE : syG (M0 m) (M0 129 2) ls n (g + 1) l v fi p = if 2 * v + bt (M0 m) p - fi < cnt ls n (l + 1 : Nat) then some (nth ls (l + 1 : Nat) (2 * v + bt (M0 m) p - fi) n, p + 1) else syG (M0 m) (M0 129 2) ls n g (l + 1) (2 * v + bt (M0 m) p) (2 * (fi + cnt ls n (l + 1 : Nat))) (p + 1) := if_pos hlt
            rw [hE] at a8
            have TL : o_al 1 (o_get 6 4 4 (o_il 5 (o_iald (o_is 6 (o_il 2 (o_il 3 (o_isub (o_il 6 (o_icmp .ge (o_il 4 (o_il 6 (o_iadd (o_is 4 (o_il 3 (o_il 6 (o_iadd (o_ishlc 2 (b143_116 d (fW d kd143 K) K))))))))) (o_al 1 (o_get 6 3 3 (o_il 4 (o_il 2 (o_iadd (o_il 3 (o_isub (o_iald (b143_102 d (fW d kd143 K) K)))))))))))))))))) [some (fx 129), some (gr cc), some (ti (2 * v + bt (M0 m) p)), some (ti fi), some (ti (offL ls n l)), some (ti (l + 1)), y6] [] (sh, R, nx, zl) := by
              refine ⟨_, hcc, ?_⟩
              refine ⟨16, h4, by omega, ?_⟩
              refine ⟨by omega, fun w5 => ?_, fun w5 => ?_⟩
              · rw [hc4] at w5
                rw [if_neg (by omega)] at a8
                have z := ih (l + 1) (2 * v + bt (M0 m) p) (2 * (fi + cnt ls n (l + 1 : Nat))) (p + 1) R (some (ti (R c4 (l + 1)))) (by omega) (by omega) (by rw [Int.pow_succ]; omega) (by omega) (by omega) (by omega) (by omega) a8 R1 gt R8
                have ev : (fi + R c4 (l + 1)) * 2 = 2 * (fi + cnt ls n (l + 1 : Nat)) := by rw [hc4]; omega
                have ev2 : offL ls n l + R c4 (l + 1) = offL ls n (l + 1) := by rw [hc4]; rfl
                have ev3 : ((l + 1 : Nat) : Int) + 1 = (l : Int) + 1 + 1 := by omega
                rw [← ev, ← ev2, ev3] at z
                exact z
              · rw [hc4] at w5
                rw [if_pos (by omega)] at a8
                refine ⟨_, hcc, ?_⟩
                refine ⟨nR, h3, by omega, ?_⟩
                have e := sS_some (o := o) a8
                rw [e] at k
                have ev : R c3 (offL ls n l + (2 * v + bt (M0 m) p) - fi) = nth ls (l + 1 : Nat) (2 * v + bt (M0 m) p - fi) n := by
                  rw [gt.1 c3 n3, show offL ls n l + (2 * v + bt (M0 m) p) - fi = offL ls n l + (2 * v + bt (M0 m) p - fi) by omega]
                  exact hv.2 l _ hl (by omega) (by omega)
                have z := k R ⟨uK_2 hK hmc gt, ⟨R1, by rw [R8]; exact r2, by rw [gt.2 5 (by omega) (by omega)]; exact r3, by rw [gt.1 mc hmc]; exact r4⟩, by omega, r7⟩ gt
                dsimp only at z
                rw [← ev] at z
                exact z
            rw [gR] at TL
            exact TL
        · have hE : syG (M0 sc) (M0 129 2) ls n (g + 1) l v fi p = none := if_neg (by omega)
          rw [hE] at a8
          refine ⟨Or.inr rfl, ?_⟩
          have e : sS (M0 sc) (M0 129 2) ls n (some (p0, o)) = (0, none) := sS_none a8
          rw [e] at k
          exact uX_fail (K2 := fun M3 => K (some (ti 0)) (sh, M3, nx, zl)) hmc (uK_2 hK hmc a10) (fun M3 h g => k M3 h (uk2_t a10 g))
    exact L 15 0 0 0 p0 M none rfl (by omega) (by decide) (by omega) (by omega) r5 r6 rfl r1 (uk2_r M) rfl
end USYM
