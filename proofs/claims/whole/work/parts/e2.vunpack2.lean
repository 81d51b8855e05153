/-! UNPACKING, the reference: a whole row -/
def pg (M : FM) (i x : Int) : FM := um M 168 (ur (M 168) i x)
theorem pg_o (M : FM) (i x : Int) {c : Nat} (h : c ≠ 168) : pg M i x c = M c := um_ne h
theorem pg_at (M : FM) (i x : Int) : pg M i x 168 i = x := by
  unfold pg
  rw [um_at, ur_at]
theorem pg_ne (M : FM) (i x : Int) {j : Int} (h : j ≠ i) : pg M i x 168 j = M 168 j := by
  unfold pg
  rw [um_at, ur_ne h]
def vB (M : FM) (sc tc : Nat) (a n mo : Int) : FM := pg (pg (pg (pg (pg (pg (pg (pg M 50 sc) 51 a) 52 (8 * n)) 53 0) 54 0) 55 tc) 56 0) 57 mo
section VUNPACK2
variable {d nx zl : Nat} {K : Option TV → FH → Prop} {sh : Nat → Option Shp} {M0 M : FM} {sc tc nS nT : Nat} {a n mo x y : Int}
/-- the end of a row -/
theorem v286 {last : Int} {st : St} {y9 y10 y11 : Option TV} (hC : vC sh M0 sc tc nS nT) (hE : vE M0 = 8 * (a + n)) (ha : M0 168 51 = a ∧ M0 168 52 = 8 * n) (hR : vR M0 M tc st)
    (k0 : (∀ p o, st = some (p, o) → ¬ ((p + 7) / 8 * 8 = 8 * (a + n) - 32 ∧ tld (M0 sc) ((p + 7) / 8) = adV o)) → ∀ M2 : FM, vK M0 M2 tc → K (some (ti (-1))) (sh, M2, nx, zl))
    (k1 : ∀ p o, st = some (p, o) → (p + 7) / 8 * 8 = 8 * (a + n) - 32 ∧ tld (M0 sc) ((p + 7) / 8) = adV o → ∀ M2 : FM, vK M0 M2 tc → sl (M2 tc) 0 o.length = o → K (some (ti o.length)) (sh, M2, nx, zl)) : b329_286 (d + 2) (fW (d + 2) kd329 K) K [some (fx 168), some (gr sc), some (ti a), some (ti n), some (gr tc), some (ti mo), some (ti x), some (ti y), some (ti last), y9, y10, y11] [] (sh, M, nx, zl) := by
  have hC0 := hC
  obtain ⟨⟨⟨u1, u2⟩, u3, u4⟩, ⟨u5, ⟨u6, u6b⟩, ⟨u7, u7b⟩, u8⟩, ⟨u9, u10⟩, ⟨u11, u12, u12b, u12c⟩, u13⟩ := hC
  refine toByte_Y hC0 hR (fun M1 t1 t2 => ?_)
  have L : ∀ (N j : Nat) (chk : Int) (M2 : FM), j + N = 4 → (0 ≤ chk ∧ chk < 256 ^ j) → vR M0 M2 tc (bS (M0 sc) (vE M0) (8 * j) (tbS st)).2 → (∀ p o, st = some (p, o) → (bS (M0 sc) (vE M0) (8 * j) (tbS st)).2 ≠ none → chk = beN (M0 sc) ((p + 7) / 8) j) → fm_X (d + 2) kd329 296 [some (fx 168), some (gr sc), some (ti a), some (ti n), some (gr tc), some (ti mo), some (ti x), some (ti y), some (ti last), some (tj chk), none, some (ti j)] [] (sh, M2, nx, zl) K := by
    intro N
    induction N with
    | zero =>
      intro j chk M2 c1 c2 c3 c4
      have ej : j = 4 := by omega
      subst ej
      have e4 : (256 : Int) ^ 4 = 4294967296 := by decide
      have hK2 := vR_K c3
      have e52 : M2 168 52 = M0 168 52 := hK2.1 52 (by omega) (by omega) (by omega)
      have hp2 := vR_p c3
      refine s329_296 (d + 2) K _ _ _ ?_
      refine ⟨by omega, fun w => ?_, fun w => by omega⟩
      cases st with
      | none =>
        have c3' : vR M0 M2 tc none := c3
        have hf := c3'.2.1
        refine ⟨by omega, fun w2 => k0 (fun p o z => by cases z) M2 hK2, fun w2 => by omega⟩
      | some q0 =>
        obtain ⟨p, o⟩ := q0
        have et : tbS (some (p, o)) = some ((p + 7) / 8 * 8, o) := rfl
        rw [et] at c3 c4
        obtain ⟨q, hq⟩ : ∃ q : Int, q = (p + 7) / 8 * 8 := ⟨_, rfl⟩
        rw [← hq] at c3 c4
        have eq8 : (p + 7) / 8 = q / 8 := by omega
        by_cases h32 : q + 32 ≤ vE M0
        · have eb : bS (M0 sc) (vE M0) (8 * 4) (some (q, o)) = (bv (M0 sc) q (8 * 4), some (q + 32, o)) := bS_pos h32
          rw [eb] at c3 c4
          have c3' : vR M0 M2 tc (some (q + 32, o)) := c3
          have ec := c4 p o rfl (fun z => by cases z)
          have hf := c3'.2.1.2.1
          have h53 := c3'.2.1.1
          have h56 := c3'.2.1.2.2.1
          have hsl := c3'.2.1.2.2.2
          have h57 := c3'.2.2.2
          have ebe : beN (M0 sc) ((p + 7) / 8) 4 = tld (M0 sc) ((p + 7) / 8) := by
            rw [eq8]
            show 256 * (256 * (256 * (256 * 0 + M0 sc (q / 8 + ((0 : Nat) : Int)) % 256) + M0 sc (q / 8 + ((1 : Nat) : Int)) % 256) + M0 sc (q / 8 + ((2 : Nat) : Int)) % 256) + M0 sc (q / 8 + ((3 : Nat) : Int)) % 256 = tld (M0 sc) (q / 8)
            unfold tld
            rw [show q / 8 + ((0 : Nat) : Int) = q / 8 by omega, show q / 8 + ((1 : Nat) : Int) = q / 8 + 1 by omega, show q / 8 + ((2 : Nat) : Int) = q / 8 + 2 by omega, show q / 8 + ((3 : Nat) : Int) = q / 8 + 3 by omega]
            omega
          rw [ebe] at ec
          refine ⟨by omega, fun w2 => by omega, fun w2 => ?_⟩
          refine ⟨by omega, fun w3 => ?_, fun w3 => ?_⟩
          · refine k0 (fun p2 o2 z hh => ?_) M2 hK2
            injection z with z
            injection z with z3 z4
            rw [← z3] at hh
            omega
          · have ra := ad_rng o
            have rc : 0 ≤ adV o ∧ adV o < 4294967296 := by
              unfold adV
              omega
            have z := checkOf_Y (d := d + 1) (nx := nx) (zl := zl) (sh := sh) (M := M2) (a := tc) (na := nT) (n := M2 168 56) (K := fun w h2 => o_lcmp .eq (o_al 0 (o_get 12 56 56 (b329_366 (d + 2) (fW (d + 2) kd329 K) K))) (b329_358 (d + 2) (fW (d + 2) kd329 K) K) [some (fx 168), some (gr sc), some (ti a), some (ti n), some (gr tc), some (ti mo), some (ti x), some (ti y), some (ti last), some (tj chk), none, some (ti ((4 : Nat) : Int))] (w.toList ++ [tj chk]) h2) u4 u10 (by omega) (by omega) ?_
            · exact z
            · have es : sl (M2 tc) 0 (M2 168 56).toNat = o := by
                rw [h56, Int.toNat_natCast]
                exact hsl
              rw [es]
              refine ⟨by omega, fun w4 => ?_, fun w4 => ?_⟩
              · have z2 := k1 p o rfl ⟨by omega, by rw [← ec]; exact w4⟩ M2 hK2 hsl
                rw [← h56] at z2
                exact z2
              · refine k0 (fun p2 o2 z hh => ?_) M2 hK2
                injection z with z
                injection z with z3 z4
                rw [← z3, ← z4] at hh
                exact w4 (by rw [ec]; exact hh.2)
        · have eb : bS (M0 sc) (vE M0) (8 * 4) (some (q, o)) = (0, none) := bS_neg h32
          rw [eb] at c3
          have c3' : vR M0 M2 tc none := c3
          have hf := c3'.2.1
          refine ⟨by omega, fun w2 => ?_, fun w2 => by omega⟩
          refine k0 (fun p2 o2 z hh => ?_) M2 hK2
          injection z with z
          injection z with z3 z4
          rw [← z3] at hh
          omega
    | succ N ih =>
      intro j chk M2 c1 c2 c3 c4
      refine s329_296 (d + 2) K _ _ _ ?_
      refine ⟨by omega, fun w => by omega, fun w => ?_⟩
      refine readNumber_Y (n := 8) hC0 c3 (by omega) (fun v M3 x1 x2 x3 x4 => ?_)
      have e256 : (2 : Int) ^ 8 = 256 := by decide
      refine ⟨by omega, ?_⟩
      have ba := bS_add (M0 sc) (vE M0) (8 * j) 8 (tbS st)
      rw [ba, show 8 * j + 8 = 8 * (j + 1) by omega] at x1
      have zz := ih (j + 1) (256 * chk + v) M3 (by omega) (by rw [Int.pow_succ]; omega) x1 (fun p o hst hne => ?_)
      · exact zz
      · have hne2 : (bS (M0 sc) (vE M0) 8 (bS (M0 sc) (vE M0) (8 * j) (tbS st)).2).2 ≠ none := by
          rw [ba, show 8 * j + 8 = 8 * (j + 1) by omega]
          exact hne
        have ev := x3 hne2
        rw [hst] at hne2 ev c4
        have et : tbS (some (p, o)) = some ((p + 7) / 8 * 8, o) := rfl
        rw [et] at hne2 ev c4
        obtain ⟨q, hq⟩ : ∃ q : Int, q = (p + 7) / 8 * 8 := ⟨_, rfl⟩
        rw [← hq] at hne2 ev c4
        have eq8 : (p + 7) / 8 = q / 8 := by omega
        by_cases h1 : q + ((8 * j : Nat) : Int) ≤ vE M0
        · rw [bS_pos h1] at hne2 ev c4
          have ec := c4 p o rfl (fun z => by cases z)
          dsimp only at hne2 ev
          by_cases h2 : q + ((8 * j : Nat) : Int) + ((8 : Nat) : Int) ≤ vE M0
          · rw [bS_pos h2] at ev
            dsimp only at ev
            rw [bv8 _ (by omega)] at ev
            show _ = 256 * beN (M0 sc) ((p + 7) / 8) j + M0 sc ((p + 7) / 8 + j) % 256
            rw [← ec, ev, eq8, show (q + ((8 * j : Nat) : Int)) / 8 = q / 8 + j by omega]
          · rw [bS_neg h2] at hne2
            exact absurd rfl hne2
        · rw [bS_neg h1] at hne2
          exact absurd rfl hne2
  have zz := L 4 0 0 M1 rfl (by decide) ?_ (fun p o _ _ => rfl)
  · exact zz
  · have e0 : (bS (M0 sc) (vE M0) (8 * 0) (tbS st)).2 = tbS st := by
      cases st with
      | none => rfl
      | some q0 =>
        obtain ⟨p, o⟩ := q0
        have y1 := t1.2.1.1
        have y2 := t1.2.2.1
        have hle : (p + 7) / 8 * 8 + ((8 * 0 : Nat) : Int) ≤ vE M0 := by
          unfold vE
          omega
        show (bS (M0 sc) (vE M0) (8 * 0) (some ((p + 7) / 8 * 8, o))).2 = some ((p + 7) / 8 * 8, o)
        rw [bS_pos hle]
        show some ((p + 7) / 8 * 8 + ((8 * 0 : Nat) : Int), o) = _
        rw [show (p + 7) / 8 * 8 + ((8 * 0 : Nat) : Int) = (p + 7) / 8 * 8 by omega]
    rw [e0]
    exact t1
end VUNPACK2
