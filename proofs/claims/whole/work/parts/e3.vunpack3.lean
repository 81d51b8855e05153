/-! UNPACKING, the reference: the blocks; the call -/
section VUNPACK3
variable {d nx zl : Nat} {K : Option TV → FH → Prop} {sh : Nat → Option Shp} {M0 M : FM} {sc tc nS nT : Nat} {a n mo x y : Int}
theorem v126 {W : Int} (hC : vC sh M0 sc tc nS nT) (hE : vE M0 = 8 * (a + n)) (ha : M0 168 51 = a ∧ M0 168 52 = 8 * n) (hmo : M0 168 57 = mo) (hx : 0 ≤ x ∧ x ≤ 255) (hW : W = 256 * 2 ^ (x / 16).toNat) (G : Nat) (hG : 8 * (a + n) < G) {p0 : Int} {o0 : List Int} {G0 : Nat} (hx7 : x / 16 ≤ 7)
    (k0 : (∀ p o, blG (M0 sc) (8 * (a + n)) W mo G G0 p0 o0 = some (p, o) → ¬ ((p + 7) / 8 * 8 = 8 * (a + n) - 32 ∧ tld (M0 sc) ((p + 7) / 8) = adV o)) → ∀ M2 : FM, vK M0 M2 tc → K (some (ti (-1))) (sh, M2, nx, zl))
    (k1 : ∀ p o, blG (M0 sc) (8 * (a + n)) W mo G G0 p0 o0 = some (p, o) → (p + 7) / 8 * 8 = 8 * (a + n) - 32 ∧ tld (M0 sc) ((p + 7) / 8) = adV o → ∀ M2 : FM, vK M0 M2 tc → sl (M2 tc) 0 o.length = o → K (some (ti o.length)) (sh, M2, nx, zl)) : ∀ (g : Nat) (p : Int) (o : List Int) (M1 : FM) (y9 y10 y11 : Option TV), 8 * (a + n) - p < g → blG (M0 sc) (8 * (a + n)) W mo G G0 p0 o0 = blG (M0 sc) (8 * (a + n)) W mo G g p o → vR M0 M1 tc (some (p, o)) → fm_X (d + 3) kd329 126 [some (fx 168), some (gr sc), some (ti a), some (ti n), some (gr tc), some (ti mo), some (ti x), some (ti y), some (ti 0), y9, y10, y11] [] (sh, M1, nx, zl) K := by
  have hC0 := hC
  obtain ⟨⟨⟨u1, u2⟩, u3, u4⟩, ⟨u5, ⟨u6, u6b⟩, ⟨u7, u7b⟩, u8⟩, ⟨u9, u10⟩, ⟨u11, u12, u12b, u12c⟩, u13⟩ := hC
  have rW : 0 ≤ W ∧ W ≤ 32768 := by
    have z := p2_mono (x / 16).toNat 7 (by omega)
    have z2 := two_pos (x / 16).toNat
    have z3 : (2 : Int) ^ 7 = 128 := by decide
    omega
  have OVER : ∀ (st : St) (last : Int) (M1 : FM) (y9 y10 y11 : Option TV), vR M0 M1 tc st → (st = none ∨ last = 1) → (0 ≤ last ∧ last ≤ 1) → (∀ p o, blG (M0 sc) (8 * (a + n)) W mo G G0 p0 o0 = some (p, o) ↔ st = some (p, o)) → fm_X (d + 3) kd329 126 [some (fx 168), some (gr sc), some (ti a), some (ti n), some (gr tc), some (ti mo), some (ti x), some (ti y), some (ti last), y9, y10, y11] [] (sh, M1, nx, zl) K := by
    intro st last M1 y9 y10 y11 b1 b2 b3 b5
    have EX := v286 (d := d + 1) (nx := nx) (zl := zl) (K := K) (M := M1) (a := a) (n := n) (mo := mo) (x := x) (y := y) (last := last) (y9 := y9) (y10 := y10) (y11 := y11) hC0 hE ha b1 (fun h => k0 (fun p o z => h p o ((b5 p o).1 z))) (fun p o z => k1 p o ((b5 p o).2 z))
    refine s329_126 (d + 3) K _ _ _ ?_
    refine ⟨by omega, fun w2 => EX, fun w2 => ?_⟩
    refine ⟨by omega, fun w3 => EX, fun w3 => ?_⟩
    rcases b2 with b2 | b2
    · rw [b2] at b1
      have := b1.2.1
      omega
    · omega
  intro g
  induction g with
  | zero =>
    intro p o M1 y9 y10 y11 c1 c4 c5
    have z1 := c5.2.1.1
    have z2 := c5.2.2.1
    omega
  | succ g ih =>
    intro p o M1 y9 y10 y11 c1 c4 c5
    have hf := c5.2.1.2.1
    have zp1 := c5.2.1.1
    have zp2 := c5.2.2.1
    refine s329_126 (d + 3) K _ _ _ ?_
    refine ⟨by omega, fun w2 => by omega, fun w2 => ?_⟩
    refine ⟨by omega, fun w3 => by omega, fun w3 => ?_⟩
    refine readBit_Y hC0 c5 (fun M2 t1 t2 => ?_)
    rw [hE] at t1 ⊢
    have rb := bS_rng (M0 sc) (8 * (a + n)) 1 (some (p, o))
    have e21 : (2 : Int) ^ 1 = 2 := by decide
    have NEXT : ∀ (last : Int) (st : St) (M3 : FM) (y9 y10 y11 : Option TV), (0 ≤ last ∧ last ≤ 1) → vR M0 M3 tc st → (st = none → blG (M0 sc) (8 * (a + n)) W mo G (g + 1) p o = none) → (∀ p2 o2, st = some (p2, o2) → p < p2 ∧ blG (M0 sc) (8 * (a + n)) W mo G (g + 1) p o = if last = 1 then some (p2, o2) else blG (M0 sc) (8 * (a + n)) W mo G g p2 o2) → fm_X (d + 3) kd329 126 [some (fx 168), some (gr sc), some (ti a), some (ti n), some (gr tc), some (ti mo), some (ti x), some (ti y), some (ti last), y9, y10, y11] [] (sh, M3, nx, zl) K := by
      intro last st M3 y9 y10 y11 b1 b2 b3 b4
      cases st with
      | none =>
        have e := c4.trans (b3 rfl)
        exact OVER none last M3 y9 y10 y11 b2 (Or.inl rfl) b1 (fun p2 o2 => by rw [e])
      | some q =>
        obtain ⟨p2, o2⟩ := q
        obtain ⟨b5, b6⟩ := b4 p2 o2 rfl
        by_cases hl : last = 1
        · rw [if_pos hl] at b6
          exact OVER (some (p2, o2)) last M3 y9 y10 y11 b2 (Or.inr hl) b1 (fun p3 o3 => by rw [c4.trans b6])
        · rw [if_neg hl] at b6
          have hl0 : last = 0 := by omega
          rw [hl0]
          exact ih p2 o2 M3 y9 y10 y11 (by omega) (c4.trans b6) b2
    -- from the sort on, whatever the state
    have SORT : ∀ (last v : Int) (st : St) (M3 : FM), (0 ≤ last ∧ last ≤ 1) → (0 ≤ v ∧ v ≤ 3) → vR M0 M3 tc st → (st = none → blG (M0 sc) (8 * (a + n)) W mo G (g + 1) p o = none) → (∀ p2 o2, st = some (p2, o2) → v ≤ 2 ∧ p2 = p + 3 ∧ o2 = o ∧ v = bv (M0 sc) (p + 1) 2 ∧ last = bv (M0 sc) p 1 ∧ p + 3 ≤ 8 * (a + n)) → o_il 9 (o_if .ne (o_il 9 (o_ic 1 (o_icmp .ne (o_al 0 (o_callv (d + 3) 339 0 12 (o_al 0 (o_ic 256 (o_il 6 (o_ic 16 (o_idiv (o_ishl (o_callv (d + 3) 337 1 12 (b329_283 (d + 3) (fW (d + 3) kd329 K) K)))))))))) (o_al 0 (o_callv (d + 3) 293 0 12 (o_al 0 (o_get 12 46 46 (o_al 0 (o_get 12 36 36 (o_ic 0 (o_ic 288 (o_ic 0 (o_callv (d + 3) 335 4 13 (o_if .eq (b329_247 (d + 3) (fW (d + 3) kd329 K) K) (o_al 0 (o_get 12 47 47 (o_al 0 (o_get 12 36 36 (o_ic 288 (o_ic 32 (o_ic 0 (o_callv (d + 3) 335 4 13 (b329_240 (d + 3) (fW (d + 3) kd329 K) K))))))))))))))))))))))) (o_al 0 (o_callv (d + 3) 332 0 12 (b329_283 (d + 3) (fW (d + 3) kd329 K) K)))) [some (fx 168), some (gr sc), some (ti a), some (ti n), some (gr tc), some (ti mo), some (ti x), some (ti y), some (ti last), some (ti v), y10, y11] [] (sh, M3, nx, zl) := by
      intro last v st M3 b1 b2 b3 b4 b5
      have EB : ∀ p2 o2, st = some (p2, o2) → (bkS (M0 sc) (8 * (a + n)) W mo G (p + 1) o = none → blG (M0 sc) (8 * (a + n)) W mo G (g + 1) p o = none) ∧ ∀ p3 o3, bkS (M0 sc) (8 * (a + n)) W mo G (p + 1) o = some (p3, o3) → p < p3 ∧ blG (M0 sc) (8 * (a + n)) W mo G (g + 1) p o = if last = 1 then some (p3, o3) else blG (M0 sc) (8 * (a + n)) W mo G g p3 o3 := by
        intro p2 o2 hst
        obtain ⟨s1, s2, s3, s4, s5, s6⟩ := b5 p2 o2 hst
        have ec : blG (M0 sc) (8 * (a + n)) W mo G (g + 1) p o = match bkS (M0 sc) (8 * (a + n)) W mo G (p + 1) o with
            | none => none
            | some (p2, o2) => if bv (M0 sc) p 1 = 1 then some (p2, o2) else blG (M0 sc) (8 * (a + n)) W mo G g p2 o2 := if_pos s6
        refine ⟨fun z => by rw [ec, z], fun p3 o3 z => ?_⟩
        have za := bkS_adv z
        refine ⟨by omega, ?_⟩
        rw [ec, z, s5]
      refine ⟨by omega, fun w4 => ?_, fun w4 => ?_⟩
      · refine ⟨by omega, fun w5 => ?_, fun w5 => ?_⟩
        · refine readMade_Y (G := G) hC0 (by rw [hE]; exact hG) b3 (fun M4 x1 x2 => ?_) (fun M4 p1 o1 p2 la lb hst x2 x3 x4 x5 => ?_)
          · refine ⟨by omega, ?_⟩
            refine ⟨by omega, ?_⟩
            refine readSymbolsX_Y x1 ?_
            refine NEXT last none M4 _ _ _ b1 x1 (fun _ => ?_) (fun p3 o3 z => by cases z)
            cases st with
            | none => exact b4 rfl
            | some q =>
              obtain ⟨p2, o2⟩ := q
              obtain ⟨s1, s2, s3, s4, s5, s6⟩ := b5 p2 o2 rfl
              refine (EB p2 o2 rfl).1 ?_
              have x3 := x2 p2 o2 W mo rfl
              unfold bkS
              rw [if_neg (by omega), if_neg (by omega), if_pos (by omega), show p + 1 + 2 = p2 by omega, ← s3, ← hE]
              exact x3
          · refine ⟨by omega, ?_⟩
            refine ⟨by omega, ?_⟩
            obtain ⟨s1, s2, s3, s4, s5, s6⟩ := b5 p1 o1 hst
            have y1 := x3.2.1.1
            have y2 := x3.2.2.1
            refine readSymbols_Y (G := G) (W := 256 * 2 ^ (x / 16).toNat) hC0 (Nat.le_refl 288) (Nat.le_refl 32) x4 x5 (by rw [← hW]; exact rW) x3 (by rw [hE]; omega) (fun M5 z1 z2 => ?_)
            rw [hE, hmo, ← hW] at z1
            have ek : bkS (M0 sc) (8 * (a + n)) W mo G (p + 1) o = smG (M0 sc) (8 * (a + n)) la 288 lb 32 W mo G p2 o1 := by
              have x6 := x2 W mo
              rw [hE] at x6
              unfold bkS
              rw [if_neg (by omega), if_neg (by omega), if_pos (by omega), show p + 1 + 2 = p1 by omega, ← s3]
              exact x6
            rw [← ek] at z1
            exact NEXT last _ M5 _ _ _ b1 z1 (EB p1 o1 hst).1 (EB p1 o1 hst).2
        · refine makeFixed_Y (fun M4 f1 f2 => ?_)
          have b3' : vR M0 M4 tc st := vR_up b3 (fun c hc => f2 c (by omega)) (fun c hc => f2 c (by omega))
          refine mmake2_Y (ls := fxA) (n := 288) (nF := 339) (z := 0) (tr204 sh) rfl (by decide) (by omega) (by omega) (by omega) (fun s hs => ?_) (Or.inl rfl) (fun r M5 q1 q2 => ?_)
          · rw [show (0 : Int) + (s : Int) = s by omega, f1 s (by omega) (by omega)]
            unfold fxR fxA
            refine ⟨?_, ?_⟩
            · by_cases d1 : (s : Int) < 144
              · rw [if_pos d1, if_pos d1]
              · rw [if_neg d1, if_neg d1]
                by_cases d2 : (s : Int) < 256
                · rw [if_pos d2, if_pos d2]
                · rw [if_neg d2, if_neg d2]
                  by_cases d3 : (s : Int) < 280
                  · rw [if_pos d3, if_pos d3]
                  · rw [if_neg d3, if_neg d3, if_pos (by omega)]
            · split <;> (try split) <;> (try split) <;> omega
          · rcases q1 with ⟨q1, q4, q5⟩ | ⟨q1, q4⟩
            · rw [q1]
              refine ⟨by omega, fun z => by omega, fun _ => ?_⟩
              have b3b : vR M0 M5 tc st := vR_up b3' (fun c hc => q2 c (by omega) (by omega)) (fun c hc => q2 c (by omega) (by omega))
              have e195 : M5 195 = M4 195 := q2 195 (by decide) (by decide)
              refine mmake2_Y (ls := fxB) (n := 32) (nF := 339) (z := 0) (tr206 sh) rfl (by decide) (by omega) (by omega) (by omega) (fun s hs => ?_) (Or.inl rfl) (fun r2 M6 q6 q7 => ?_)
              · rw [e195, f1 (288 + s) (by omega) (by omega)]
                unfold fxR fxB
                rw [if_neg (by omega), if_neg (by omega), if_neg (by omega), if_neg (by omega)]
                omega
              · rcases q6 with ⟨q6, q8, q9⟩ | ⟨q6, q8⟩
                · rw [q6]
                  have b3c : vR M0 M6 tc st := vR_up b3b (fun c hc => q7 c (by omega) (by omega)) (fun c hc => q7 c (by omega) (by omega))
                  refine ⟨by omega, fun z => by omega, fun _ => ?_⟩
                  refine ⟨by omega, ?_⟩
                  refine ⟨by omega, ?_⟩
                  cases st with
                  | none =>
                    refine readSymbolsX_Y b3c ?_
                    exact NEXT last none M6 _ _ _ b1 b3c (fun _ => b4 rfl) (fun p3 o3 z => by cases z)
                  | some q =>
                    obtain ⟨p2, o2⟩ := q
                    obtain ⟨s1, s2, s3, s4, s5, s6⟩ := b5 p2 o2 rfl
                    refine readSymbols_Y (G := G) (W := 256 * 2 ^ (x / 16).toNat) (la := fxA) (na := 288) (lb := fxB) (nb := 32) hC0 (Nat.le_refl 288) (Nat.le_refl 32) (by rw [q7 205 (by decide) (by decide)]; exact q5) q9 (by rw [← hW]; exact rW) b3c (by rw [hE]; omega) (fun M7 z1 z2 => ?_)
                    rw [hE, hmo, ← hW] at z1
                    have ek : bkS (M0 sc) (8 * (a + n)) W mo G (p + 1) o = smG (M0 sc) (8 * (a + n)) fxA 288 fxB 32 W mo G p2 o2 := by
                      unfold bkS
                      rw [if_neg (by omega), if_pos (by omega), show p + 1 + 2 = p2 by omega, s3]
                    rw [← ek] at z1
                    exact NEXT last _ M7 _ _ _ b1 z1 (EB p2 o2 rfl).1 (EB p2 o2 rfl).2
                · exact absurd fx_ok.2 q8
            · exact absurd fx_ok.1 q4
      · refine readStored_Y hC0 b3 (fun M4 z1 z2 => ?_)
        rw [hE, hmo] at z1
        cases st with
        | none => exact NEXT last none M4 _ _ _ b1 z1 (fun _ => b4 rfl) (fun p3 o3 z => by cases z)
        | some q =>
          obtain ⟨p2, o2⟩ := q
          obtain ⟨s1, s2, s3, s4, s5, s6⟩ := b5 p2 o2 rfl
          have ek : bkS (M0 sc) (8 * (a + n)) W mo G (p + 1) o = stO (M0 sc) (8 * (a + n)) mo (some (p2, o2)) := by
            unfold bkS
            rw [if_pos (by omega), show p + 1 + 2 = p2 by omega, s3]
            rfl
          rw [← ek] at z1
          exact NEXT last _ M4 _ _ _ b1 z1 (EB p2 o2 rfl).1 (EB p2 o2 rfl).2
    have GO : ∀ last : Int, (0 ≤ last ∧ last ≤ 1) → (p + 3 ≤ 8 * (a + n) → last = bv (M0 sc) p 1) → b329_151 (d + 3) (fW (d + 3) kd329 K) K [some (fx 168), some (gr sc), some (ti a), some (ti n), some (gr tc), some (ti mo), some (ti x), some (ti y), some (ti 0), y9, y10, y11] [ti last] (sh, M2, nx, zl) := by
      intro last b1 bl
      refine readNumber_Y (n := 2) hC0 t1 (by omega) (fun v M3 t3 t4 t5 t6 => ?_)
      rw [hE] at t3 t5
      have e22 : (2 : Int) ^ 2 = 4 := by decide
      by_cases h3 : p + 3 ≤ 8 * (a + n)
      · have e1 : bS (M0 sc) (8 * (a + n)) 1 (some (p, o)) = (bv (M0 sc) p 1, some (p + 1, o)) := bS_pos (by omega)
        have e2 : bS (M0 sc) (8 * (a + n)) 2 (some (p + 1, o)) = (bv (M0 sc) (p + 1) 2, some (p + 3, o)) := by
          have z : bS (M0 sc) (8 * (a + n)) 2 (some (p + 1, o)) = (bv (M0 sc) (p + 1) 2, some (p + 1 + (2 : Nat), o)) := bS_pos (by omega)
          rw [show p + 1 + ((2 : Nat) : Int) = p + 3 by omega] at z
          exact z
        rw [e1] at t3 t5
        dsimp only at t3 t5
        rw [e2] at t3 t5
        have ev : v = bv (M0 sc) (p + 1) 2 := t5 (fun z => by cases z)
        have t3' : vR M0 M3 tc (some (p + 3, o)) := t3
        have hf3 := t3'.2.1.2.1
        refine ⟨by omega, fun w4 => by omega, fun w4 => ?_⟩
        refine ⟨by omega, fun w5 => ?_, fun w5 => ?_⟩
        · refine ⟨Or.inl rfl, ?_⟩
          refine SORT last v (some (p + 3, o)) _ b1 (by omega) (vW0 u7 t3' hf3).1 (fun z => by cases z) (fun p2 o2 z => ?_)
          injection z with z
          injection z with z3 z4
          exact ⟨by omega, by omega, z4.symm, ev, bl h3, h3⟩
        · refine ⟨Or.inr rfl, ?_⟩
          refine SORT last v none _ b1 (by omega) (vW1 u7 t3').1 (fun _ => ?_) (fun p2 o2 z => by cases z)
          have ec : blG (M0 sc) (8 * (a + n)) W mo G (g + 1) p o = match bkS (M0 sc) (8 * (a + n)) W mo G (p + 1) o with
            | none => none
            | some (p2, o2) => if bv (M0 sc) p 1 = 1 then some (p2, o2) else blG (M0 sc) (8 * (a + n)) W mo G g p2 o2 := if_pos h3
          have ek : bkS (M0 sc) (8 * (a + n)) W mo G (p + 1) o = none := by
            unfold bkS
            rw [if_neg (by omega), if_neg (by omega), if_neg (by omega)]
          rw [ec, ek]
      · have hn : (bS (M0 sc) (8 * (a + n)) 2 (bS (M0 sc) (8 * (a + n)) 1 (some (p, o))).2).2 = none := by
          by_cases a1 : p + 1 ≤ 8 * (a + n)
          · have e1 : bS (M0 sc) (8 * (a + n)) 1 (some (p, o)) = (bv (M0 sc) p 1, some (p + 1, o)) := bS_pos (by omega)
            rw [e1]
            show (bS (M0 sc) (8 * (a + n)) 2 (some (p + 1, o))).2 = none
            rw [bS_neg (by omega)]
          · have e1 : bS (M0 sc) (8 * (a + n)) 1 (some (p, o)) = (0, none) := bS_neg (by omega)
            rw [e1]
            rfl
        rw [hn] at t3
        have hf3 := t3.2.1
        have ec : blG (M0 sc) (8 * (a + n)) W mo G (g + 1) p o = none := if_neg h3
        refine ⟨by omega, fun w4 => ?_, fun w4 => by omega⟩
        refine ⟨Or.inr rfl, ?_⟩
        exact SORT last v none _ b1 (by omega) (vW1 u7 t3).1 (fun _ => ec) (fun p2 o2 z => by cases z)
    have eL : p + 3 ≤ 8 * (a + n) → (bS (M0 sc) (8 * (a + n)) 1 (some (p, o))).1 = bv (M0 sc) p 1 := by
      intro h3
      have e1 : bS (M0 sc) (8 * (a + n)) 1 (some (p, o)) = (bv (M0 sc) p 1, some (p + 1, o)) := bS_pos (by omega)
      rw [e1]
    refine ⟨by omega, fun w4 => GO 0 (by omega) (fun h3 => ?_), fun w4 => GO 1 (by omega) (fun h3 => ?_)⟩
    · rw [← eL h3]
      omega
    · rw [← eL h3]
      omega
end VUNPACK3
