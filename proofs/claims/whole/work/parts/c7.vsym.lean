/-! UNPACKING, the reference: a byte, stored bytes, a symbol -/
def trV (T : Int → Int) (ls : Int → Int) (n : Nat) : Nat → Nat → Int → Int → Int → Prop
  | 0, _, _, _, _ => False
  | g + 1, l, m, v, fi => (0 ≤ m ∧ m ≤ 649) ∧ ∀ b : Int, 0 ≤ b → b ≤ 1 → (2 * v + b - fi < cnt ls n (l + 1 : Nat) → T (2 * m + b) = -1 - nth ls (l + 1 : Nat) (2 * v + b - fi) n) ∧ (¬ (2 * v + b - fi < cnt ls n (l + 1 : Nat)) → (T (2 * m + b) = 0 ∧ ∀ (f : Int → Int) (E p : Int), syG f E ls n g (l + 1) (2 * v + b) (2 * (fi + cnt ls n (l + 1 : Nat))) p = none) ∨ (0 < T (2 * m + b) ∧ trV T ls n g (l + 1) (T (2 * m + b)) (2 * v + b) (2 * (fi + cnt ls n (l + 1 : Nat)))))
theorem nth_nn (ls : Int → Int) (l j : Int) : ∀ n : Nat, 0 ≤ nth ls l j n ∧ nth ls l j n ≤ n
  | 0 => by
    show (0 : Int) ≤ 0 ∧ (0 : Int) ≤ ((0 : Nat) : Int)
    omega
  | n + 1 => by
    have h := nth_nn ls l j n
    show 0 ≤ (if ls n = l ∧ cnt ls n l = j then (n : Int) else nth ls l j n) ∧ (if ls n = l ∧ cnt ls n l = j then (n : Int) else nth ls l j n) ≤ ((n + 1 : Nat) : Int)
    split <;> omega
def trS (sh : Nat → Option Shp) (tr ct : Nat) : Prop := shp sh tr = some (.inr (13, [some (some ct), none])) ∧ shp sh ct = some (.inl (.int, 1300)) ∧ ct ≠ 168 ∧ 3 ≤ ct ∧ 3 ≤ tr ∧ tr ≠ ct ∧ tr ≠ 168
section VSYM
variable {d nx zl : Nat} {K : Option TV → FH → Prop} {sh : Nat → Option Shp} {M0 M : FM} {sc tc nS nT : Nat} {st : St}
theorem makeByte_Y {b : Int} (hC : vC sh M0 sc tc nS nT) (hR : vR M0 M tc st) (k : ∀ M2 : FM, vR M0 M2 tc (pS (M0 168 57) b st) → wk3 M M2 tc → K none (sh, M2, nx, zl)) : fm_Y (d + 1) 334 [.ref 168, .int (Int32.ofInt b)] (sh, M, nx, zl) K := by
  obtain ⟨⟨⟨u1, u2⟩, u3, u4⟩, ⟨u5, ⟨u6, u6b⟩, ⟨u7, u7b⟩, u8⟩, ⟨u9, u10⟩, ⟨u11, u12, u12b, u12c⟩, u13⟩ := hC
  have hK := vR_K hR
  have e57 : M 168 57 = M0 168 57 := hK.1 57 (by omega) (by omega) (by omega)
  refine m334 [fx 168, ti b] ?_
  have F1 : pS (M0 168 57) b st = none → b334_19 d (fW d kd334 K) K [some (fx 168), some (ti b)] [fx 168] (sh, M, nx, zl) := by
    intro hb
    rw [hb] at k
    refine ⟨Or.inr rfl, ?_⟩
    obtain ⟨z1, z2⟩ := vW1 u7 hR
    have z3 := z1.2.1
    refine ⟨by omega, fun w => ?_, fun w => by omega⟩
    exact k _ z1 (wk2_3 z2)
  cases st with
  | none =>
    have hf := hR.2.1
    refine ⟨by omega, fun w => F1 rfl, fun w => by omega⟩
  | some q =>
    obtain ⟨p, o⟩ := q
    have hR0 := hR
    obtain ⟨-, ⟨r1, r2, r3, r4⟩, r5, r7⟩ := hR
    refine ⟨by omega, fun w => by omega, fun w => ?_⟩
    refine ⟨by omega, fun w2 => ?_, fun w2 => F1 (if_neg (by omega))⟩
    have es : pS (M0 168 57) b (some (p, o)) = some (p, o ++ [b % 256]) := if_pos (by omega)
    rw [es] at k
    refine ⟨Or.inl rfl, ?_⟩
    obtain ⟨z1, z2⟩ := vW0 u7 hR0 r2
    obtain ⟨R, gR⟩ : ∃ R : FM, R = um M 168 (ur (M 168) 54 0) := ⟨_, rfl⟩
    rw [← gR] at z1 z2
    obtain ⟨zk, ⟨y1, y2, y3, y4⟩, y5, y7⟩ := z1
    have a55 : R 168 55 = tc := by rw [zk.1 55 (by omega) (by omega) (by omega), u2]
    have h168 : (168 : Nat) ≠ tc := fun e => u7 e.symm
    have hl : (o ++ [b % 256]).length = o.length + 1 := by simp
    have TL : o_al 0 (o_get 12 54 54 (o_if .ne (b334_55 d (fW d kd334 K) K) (o_al 0 (o_get 12 55 55 (o_al 0 (o_get 12 56 56 (o_il 1 (o_i2b (o_bast (o_al 0 (o_dup (o_get 12 56 56 (o_ic 1 (o_iadd (o_put 12 56 56 (b334_55 d (fW d kd334 K) K)))))))))))))))) [some (fx 168), some (ti b)] [] (sh, R, nx, zl) := by
      refine ⟨by omega, fun z => by omega, fun _ => ?_⟩
      refine ⟨fun m e => ?_, fun w4 => by omega⟩
      have em : m = tc := by omega
      subst em
      refine ⟨nT, u4, by omega, ?_⟩
      refine k _ ⟨⟨fun i a b c => ?_, fun j hj => ?_, fun c a b e => ?_⟩, ⟨?_, ?_, ?_, ?_⟩, ?_, ?_⟩ ⟨fun c a b => ?_, fun i a b c => ?_⟩
      · rw [um_at, ur_ne c, um_ne h168]
        exact zk.1 i a b c
      · rw [um_ne u7, um_at, ur_ne (by omega)]
        exact zk.2.1 j hj
      · rw [um_ne a, um_ne b]
        exact zk.2.2 c a b e
      · rw [um_at, ur_ne (by omega), um_ne h168]
        exact y1
      · rw [um_at, ur_ne (by omega), um_ne h168]
        exact y2
      · rw [um_at, ur_at, um_ne h168, hl]
        omega
      · rw [um_ne u7, um_at, hl, y3]
        have z := um_sl (M := R) (mc := m) (b := 0) (x := (b + 128) % 256 - 128) y4
        rw [show (0 : Int) + (o.length : Int) = o.length by omega, show ((b + 128) % 256 - 128) % 256 = b % 256 by omega] at z
        exact z
      · rw [um_at, ur_ne (by omega), um_ne h168]
        exact y5
      · rw [hl]
        omega
      · rw [um_ne a, um_ne b]
        exact z2.1 c a
      · rw [um_at, ur_ne c, um_ne h168]
        exact z2.2 i a b
    rw [gR] at TL
    exact TL
/-- the reading place moved up to a byte's begin -/
def tbS (st : St) : St := match st with
  | some (p, o) => some ((p + 7) / 8 * 8, o)
  | none => none
theorem vR_pos {p q : Int} {o : List Int} (ht : tc ≠ 168) (hR : vR M0 M tc (some (p, o))) (hq : 0 ≤ q - 8 * M0 168 51 ∧ q - 8 * M0 168 51 ≤ M0 168 52) {R : FM} (h1 : R 168 = ur (M 168) 53 (q - 8 * M0 168 51)) (h2 : ∀ c : Nat, c ≠ 168 → R c = M c) : vR M0 R tc (some (q, o)) := by
  obtain ⟨zk, ⟨y1, y2, y3, y4⟩, y5, y7⟩ := hR
  refine ⟨⟨fun i a b c => by rw [h1, ur_ne a]; exact zk.1 i a b c, fun j hj => by rw [h2 tc ht]; exact zk.2.1 j hj, fun c a b e => by rw [h2 c a]; exact zk.2.2 c a b e⟩, ⟨by rw [h1, ur_at], by rw [h1, ur_ne (by omega)]; exact y2, by rw [h1, ur_ne (by omega)]; exact y3, by rw [h2 tc ht]; exact y4⟩, by rw [h1, ur_at]; exact hq, y7⟩
theorem toByte_Y (hC : vC sh M0 sc tc nS nT) (hR : vR M0 M tc st) (k : ∀ M2 : FM, vR M0 M2 tc (tbS st) → wk2 M M2 → K none (sh, M2, nx, zl)) : fm_Y (d + 1) 333 [.ref 168] (sh, M, nx, zl) K := by
  obtain ⟨⟨⟨u1, u2⟩, u3, u4⟩, ⟨u5, ⟨u6, u6b⟩, ⟨u7, u7b⟩, u8⟩, ⟨u9, u10⟩, ⟨u11, u12, u12b, u12c⟩, u13⟩ := hC
  refine m333 [fx 168] ?_
  have L : ∀ (N : Nat) (M2 : FM) (st2 : St), ((M0 168 52 - M2 168 53)).toNat < N → vR M0 M2 tc st2 → tbS st2 = tbS st → wk2 M M2 → b333_0 d (fW d kd333 K) K [some (fx 168)] [] (sh, M2, nx, zl) := by
    intro N
    induction N with
    | zero => intro M2 st2 h1; omega
    | succ N ih =>
      intro M2 st2 h1 h2 h3 h4
      have hp := vR_p h2
      refine ⟨by omega, ?_⟩
      refine ⟨by omega, fun w => ?_, fun w => ?_⟩
      · have e : st2 = tbS st := by
          rw [← h3]
          cases st2 with
          | none => rfl
          | some q =>
            obtain ⟨p, o⟩ := q
            have y1 := h2.2.1.1
            show some (p, o) = some ((p + 7) / 8 * 8, o)
            rw [show (p + 7) / 8 * 8 = p by omega]
        rw [e] at h2
        exact k M2 h2 h4
      · have g : wk2 M2 (um M2 168 (ur (M2 168) 53 (M2 168 53 + 1))) := ⟨fun c hc => um_ne hc, fun i a _ => by rw [um_at, ur_ne a]⟩
        cases st2 with
        | none =>
          refine s333_0 d K _ _ _ ?_
          refine ih _ none (by rw [um_at, ur_at]; omega) ⟨vK_2 h2.1 u7 g, ?_, ?_⟩ h3 (wk2_t h4 g)
          · rw [um_at, ur_ne (by omega)]
            exact h2.2.1
          · rw [um_at, ur_at]
            omega
        | some q =>
          obtain ⟨p, o⟩ := q
          have y1 := h2.2.1.1
          have z := vR_pos (q := p + 1) (R := um M2 168 (ur (M2 168) 53 (M2 168 53 + 1))) u7 h2 (by omega) (by rw [um_at, show M2 168 53 + 1 = p + 1 - 8 * M0 168 51 by omega]) (fun c hc => um_ne hc)
          refine s333_0 d K _ _ _ ?_
          refine ih _ (some (p + 1, o)) (by rw [um_at, ur_at]; omega) z ?_ (wk2_t h4 g)
          rw [← h3]
          show some ((p + 1 + 7) / 8 * 8, o) = some ((p + 7) / 8 * 8, o)
          rw [show (p + 1 + 7) / 8 * 8 = (p + 7) / 8 * 8 by omega]
  exact L ((M0 168 52 - M 168 53).toNat + 1) M st (by omega) hR rfl (wk2_r M)
theorem readSymbol_Y {tr ct n : Nat} {ls : Int → Int} (hC : vC sh M0 sc tc nS nT) (hts : trS sh tr ct) (hnb : n ≤ 1000) (hv : trV (M ct) ls n 15 0 0 0 0) (hR : vR M0 M tc st) (k : ∀ M2 : FM, vR M0 M2 tc (sS (M0 sc) (vE M0) ls n st).2 → wk2 M M2 → K (some (ti (sS (M0 sc) (vE M0) ls n st).1)) (sh, M2, nx, zl)) : fm_Y (d + 2) 338 [.ref 168, .ref tr] (sh, M, nx, zl) K := by
  have hC0 := hC
  obtain ⟨⟨⟨u1, u2⟩, u3, u4⟩, ⟨u5, ⟨u6, u6b⟩, ⟨u7, u7b⟩, u8⟩, ⟨u9, u10⟩, ⟨u11, u12, u12b, u12c⟩, u13⟩ := hC
  obtain ⟨ht, hct, hc168, hc3, htr3, htc, htr⟩ := hts
  refine m338 [fx 168, gr tr] ?_
  have FAIL : ∀ (M2 : FM) (x : Int) (y3 : Option TV), (sS (M0 sc) (vE M0) ls n st) = (0, none) → vR M0 M2 tc none → wk2 M M2 → fm_X (d + 1) kd338 2 [some (fx 168), some (gr tr), some (ti x), y3] [] (sh, M2, nx, zl) K := by
    intro M2 x y3 h1 h2 h3
    rw [h1] at k
    have hf := h2.2.1
    refine s338_2 (d + 1) K _ _ _ ?_
    refine ⟨by omega, fun w => ?_, fun w => by omega⟩
    exact k M2 h2 h3
  cases st with
  | none => exact FAIL M 0 none rfl hR (wk2_r M)
  | some q =>
    obtain ⟨p0, o⟩ := q
    have L : ∀ (g l : Nat) (m v fi p : Int) (M2 : FM) (y3 : Option TV), trV (M ct) ls n g l m v fi → sy (M0 sc) (vE M0) ls n p0 = syG (M0 sc) (vE M0) ls n g l v fi p → vR M0 M2 tc (some (p, o)) → wk2 M M2 → fm_X (d + 1) kd338 2 [some (fx 168), some (gr tr), some (ti m), y3] [] (sh, M2, nx, zl) K := by
      intro g
      induction g with
      | zero => intro l m v fi p M2 y3 a1; exact absurd a1 id
      | succ g ih =>
        intro l m v fi p M2 y3 a1 a2 a3 a4
        obtain ⟨⟨b1, b2⟩, b3⟩ := a1
        have hf := a3.2.1.2.1
        refine s338_2 (d + 1) K _ _ _ ?_
        refine ⟨by omega, fun w => by omega, fun w => ?_⟩
        refine ⟨_, ht, ?_⟩
        refine readBit_Y hC0 a3 (fun M3 t1 t2 => ?_)
        have t3 := wk2_t a4 t2
        have rb := bS_rng (M0 sc) (vE M0) 1 (some (p, o))
        have e21 : (2 : Int) ^ 1 = 2 := by decide
        have ec : M3 ct = M ct := t3.1 ct hc168
        by_cases hlt : p < vE M0
        · have eb : bS (M0 sc) (vE M0) 1 (some (p, o)) = (bt (M0 sc) p, some (p + 1, o)) := by
            have z : bS (M0 sc) (vE M0) 1 (some (p, o)) = (bv (M0 sc) p 1, some (p + (1 : Nat), o)) := bS_pos (by omega)
            rw [z]
            have h1 : bv (M0 sc) p 1 = bt (M0 sc) p := by
              show 0 + bt (M0 sc) (p + ((0 : Nat) : Int)) * 2 ^ 0 = _
              rw [show p + ((0 : Nat) : Int) = p by omega]
              show 0 + bt (M0 sc) p * 1 = _
              omega
            rw [h1]
            rfl
          rw [eb] at t1 rb ⊢
          dsimp only at t1 rb ⊢
          have hE : syG (M0 sc) (vE M0) ls n (g + 1) l v fi p = if 2 * v + bt (M0 sc) p - fi < cnt ls n (l + 1 : Nat) then some (nth ls (l + 1 : Nat) (2 * v + bt (M0 sc) p - fi) n, p + 1) else syG (M0 sc) (vE M0) ls n g (l + 1) (2 * v + bt (M0 sc) p) (2 * (fi + cnt ls n (l + 1 : Nat))) (p + 1) := if_pos hlt
          rw [hE] at a2
          obtain ⟨c1, c2⟩ := b3 (bt (M0 sc) p) rb.1 (by omega)
          have hf3 := t1.2.1.2.1
          refine ⟨1300, hct, by omega, ?_⟩
          rw [ec]
          refine ⟨by omega, fun w4 => by omega, fun w4 => ?_⟩
          by_cases hc : 2 * v + bt (M0 sc) p - fi < cnt ls n (l + 1 : Nat)
          · have e1 := c1 hc
            have nn := nth_nn ls (l + 1 : Nat) (2 * v + bt (M0 sc) p - fi) n
            rw [if_pos hc] at a2
            have es := sS_some (o := o) a2
            rw [es] at k
            refine ⟨by omega, fun w5 => ?_, fun w5 => by omega⟩
            refine ⟨by omega, fun w6 => by omega, fun w6 => ?_⟩
            have z := k M3 t1 t3
            dsimp only at z
            rw [show nth ls (l + 1 : Nat) (2 * v + bt (M0 sc) p - fi) n = -1 - M ct (2 * m + bt (M0 sc) p) by omega] at z
            exact z
          · rw [if_neg hc] at a2
            rcases c2 hc with ⟨d1, d2⟩ | ⟨d1, d2⟩
            · rw [d2] at a2
              have es := sS_none (o := o) a2
              refine ⟨by omega, fun w5 => by omega, fun w5 => ?_⟩
              refine ⟨Or.inr rfl, ?_⟩
              obtain ⟨z1, z2⟩ := vW1 u7 t1
              exact FAIL _ _ _ es z1 (wk2_t t3 z2)
            · have hm := d2
              have hm2 : 0 ≤ M ct (2 * m + bt (M0 sc) p) ∧ M ct (2 * m + bt (M0 sc) p) ≤ 649 := by
                cases g with
                | zero => exact absurd d2 id
                | succ g => exact d2.1
              refine ⟨by omega, fun w5 => ?_, fun w5 => by omega⟩
              refine ⟨by omega, fun w6 => ?_, fun w6 => by omega⟩
              exact ih (l + 1) _ _ _ (p + 1) M3 _ d2 a2 t1 t3
        · have eb : bS (M0 sc) (vE M0) 1 (some (p, o)) = (0, none) := bS_neg (by omega)
          rw [eb] at t1 ⊢
          dsimp only at t1 ⊢
          have hE : syG (M0 sc) (vE M0) ls n (g + 1) l v fi p = none := if_neg hlt
          rw [hE] at a2
          have es := sS_none (o := o) a2
          have hf3 := t1.2.1
          refine ⟨1300, hct, by omega, ?_⟩
          refine ⟨by omega, fun w4 => ?_, fun w4 => by omega⟩
          refine ⟨Or.inr rfl, ?_⟩
          obtain ⟨z1, z2⟩ := vW1 u7 t1
          exact FAIL _ _ _ es z1 (wk2_t t3 z2)
    exact L 15 0 0 0 0 p0 M none hv rfl hR (wk2_r M)
end VSYM
