/-! UNPACKING, the class: a whole row -/
def pf (M : FM) (i x : Int) : FM := um M 129 (ur (M 129) i x)
theorem pf_o (M : FM) (i x : Int) {c : Nat} (h : c ≠ 129) : pf M i x c = M c := um_ne h
theorem pf_at (M : FM) (i x : Int) : pf M i x 129 i = x := by
  unfold pf
  rw [um_at, ur_at]
theorem pf_ne (M : FM) (i x : Int) {j : Int} (h : j ≠ i) : pf M i x 129 j = M 129 j := by
  unfold pf
  rw [um_at, ur_ne h]
theorem and_32 : ∀ y : Nat, y < 256 → Int32.ofInt (y : Int) &&& Int32.ofInt 32 = Int32.ofInt ((y : Int) / 32 % 2 * 32) := by decide +kernel
/-- the state in which a row's blocks begin -/
def uB (M : FM) (sc mc : Nat) (a n t mo W : Int) : FM := pf (pf (pf (pf (pf (pf (pf (pf (pf M 0 sc) 1 (8 * (a + 2))) 2 (8 * (a + n))) 3 mc) 4 t) 5 t) 6 (t + mo)) 7 W) 8 0
section UNPACK
variable {d nx zl : Nat} {K : Option TV → FH → Prop} {sh : Nat → Option Shp} {M0 M : FM} {sc mc nS nM : Nat} {a n t mo x y : Int}
/-- what an unpacked row leaves -/
def unF (M M2 : FM) (mc : Nat) (t mo : Int) : Prop := (∀ c : Nat, c ≠ 129 → c ≠ mc → (c < 130 ∨ 150 < c) → c ≠ 165 → M2 c = M c) ∧ ∀ j : Int, (j < t ∨ t + mo ≤ j) → M2 mc j = M mc j
theorem un304 {last : Int} {st : St} {k9 : Int} {y11 : Option TV} (hC : uC sh M0 sc mc nS nM) (hE : M0 129 2 = 8 * (a + n)) (hb : M0 129 4 = t) (hlm : M0 129 6 = t + mo) (hn2 : 2 ≤ n ∧ a + n ≤ nS) (ha : 0 ≤ a) (hR : uR M0 M mc st) (hl : st = none ∨ last = 1)
    (k0 : (∀ p o, st = some (p, o) → ¬ ((p + 7) / 8 * 8 = 8 * (a + n) - 32 ∧ tld (M0 sc) ((p + 7) / 8) = adV o)) → ∀ M2 : FM, uK M0 M2 mc → K (some (ti (-1))) (sh, M2, nx, zl))
    (k1 : ∀ p o, st = some (p, o) → (p + 7) / 8 * 8 = 8 * (a + n) - 32 ∧ tld (M0 sc) ((p + 7) / 8) = adV o → ∀ M2 : FM, uK M0 M2 mc → sl (M2 mc) t o.length = o → K (some (ti o.length)) (sh, M2, nx, zl)) : b139_304 (d + 1) (fW (d + 1) kd139 K) K [some (fx 129), some (gr sc), some (ti a), some (ti n), some (gr mc), some (ti t), some (ti mo), some (ti x), some (ti y), some (ti last), some (ti k9), y11] [] (sh, M, nx, zl) := by
  have hC0 := hC
  obtain ⟨⟨⟨u1, u2⟩, u3, u4⟩, ⟨u5, u6, u7, u8⟩, ⟨u9, u10⟩, ⟨u11, u12⟩, u13, u14⟩ := hC
  have hmc : mc ≠ 129 := by omega
  refine ⟨(M 129 1 + 7) / 8 * 8, and_m8 _, ?_⟩
  have hK0 := uR_K hR
  have f2 : M 129 2 = M0 129 2 := hK0.1 2 (by omega) (by omega) (by omega) (by omega) (by omega)
  cases st with
  | none =>
    obtain ⟨s1, s2⟩ := uR_posX (q := (M 129 1 + 7) / 8 * 8) hmc hR
    have hf := s1.2
    refine ⟨by omega, fun w => ?_, fun w => by omega⟩
    exact k0 (fun p o z => by cases z) _ s1.1
  | some q =>
    obtain ⟨p, o⟩ := q
    have hl1 : last = 1 := by
      rcases hl with hl | hl
      · cases hl
      · exact hl
    have r1 := hR.2.1.1
    have rp := hR.2.2.1
    rw [r1]
    obtain ⟨q, hq⟩ : ∃ q : Int, q = (p + 7) / 8 * 8 := ⟨_, rfl⟩
    rw [← hq]
    obtain ⟨s1, s2⟩ := uR_pos (q := q) hmc hR (by omega)
    obtain ⟨R, gR⟩ : ∃ R : FM, R = um M 129 (ur (M 129) 1 q) := ⟨_, rfl⟩
    rw [← gR] at s1 s2
    have hf := s1.2.1.2.1
    have g1 := s1.2.1.1
    have g5 := s1.2.1.2.2.1
    have g7 := s1.2.2.2
    have hK1 := s1.1
    have e2 : R 129 2 = M0 129 2 := hK1.1 2 (by omega) (by omega) (by omega) (by omega) (by omega)
    have e4 : R 129 4 = M0 129 4 := hK1.1 4 (by omega) (by omega) (by omega) (by omega) (by omega)
    have e0 : R 129 0 = sc := by rw [hK1.1 0 (by omega) (by omega) (by omega) (by omega) (by omega), u1]
    have es : R sc = M0 sc := hK1.2.2 sc (by omega) u5 (by omega) (by omega)
    have TL : o_al 0 (o_get 11 8 8 (o_if .ne (b139_344 (d + 1) (fW (d + 1) kd139 K) K) (o_il 9 (o_if .eq (b139_344 (d + 1) (fW (d + 1) kd139 K) K) (o_al 0 (o_get 11 1 1 (o_al 0 (o_get 11 2 2 (o_ic 32 (o_isub (o_icmp .eq (o_al 0 (o_get 11 5 5 (o_al 0 (o_get 11 4 4 (o_isub (b139_355 (d + 1) (fW (d + 1) kd139 K) K)))))) (b139_344 (d + 1) (fW (d + 1) kd139 K) K)))))))))))) [some (fx 129), some (gr sc), some (ti a), some (ti n), some (gr mc), some (ti t), some (ti mo), some (ti x), some (ti y), some (ti last), some (ti k9), y11] [] (sh, R, nx, zl) := by
      refine ⟨by omega, fun w => by omega, fun w => ?_⟩
      refine ⟨by omega, fun w2 => by omega, fun w2 => ?_⟩
      refine ⟨by omega, fun w3 => ?_, fun w3 => ?_⟩
      · have ec : R 129 5 - R 129 4 = o.length := by omega
        have so : sl (R mc) t (o.length : Int).toNat = o := by
          rw [Int.toNat_natCast, ← hb]
          exact s1.2.1.2.2.2
        have z := check_Y (d := d) (nx := nx) (zl := zl) (M := R) (sh := sh) (a := mc) (na := nM) (p := t) (n := o.length) (K := fun w h2 => o_callv (d + 1) 153 1 11 (o_if .eq (o_ic (-1) (b139_379 (d + 1) (fW (d + 1) kd139 K) K)) (o_il 10 (b139_379 (d + 1) (fW (d + 1) kd139 K) K))) [some (fx 129), some (gr sc), some (ti a), some (ti n), some (gr mc), some (ti t), some (ti mo), some (ti x), some (ti y), some (ti last), some (ti (o.length : Int)), y11] (w.toList ++ [fx 129]) h2) u4 u10 (by omega) (by omega) (by omega) ?_
        · rw [← ec] at z
          exact z
        · rw [so]
          have ra := ad_rng o
          have rc : 0 ≤ adV o ∧ adV o < 4294967296 := by
            unfold adV
            omega
          refine checkHolds_Y (q := q / 8) u3 e0 (by omega) (by omega) u9 rc (fun z hz => ?_)
          rw [es] at hz
          have e7 : (p + 7) / 8 = q / 8 := by omega
          rcases hz with ⟨z1, z2⟩ | ⟨z1, z2⟩
          · rw [z1]
            refine ⟨by omega, fun z => by omega, fun _ => ?_⟩
            refine k1 p o rfl ⟨by omega, by rw [e7]; exact z2⟩ R hK1 ?_
            rw [← hb]
            exact s1.2.1.2.2.2
          · rw [z1]
            refine ⟨by omega, fun _ => ?_, fun z => absurd rfl z⟩
            refine k0 (fun p2 o2 z hh => ?_) R hK1
            injection z with z
            injection z with z3 z4
            rw [← z3, ← z4, e7] at hh
            exact z2 hh.2
      · refine k0 (fun p2 o2 z hh => ?_) R hK1
        injection z with z
        injection z with z3 z4
        rw [← z3] at hh
        omega
    rw [gR] at TL
    exact TL
theorem un174 {W : Int} (hC : uC sh M0 sc mc nS nM) (hW : M0 129 7 = W) (hE : M0 129 2 = 8 * (a + n)) (hb : M0 129 4 = t) (hlm : M0 129 6 = t + mo) (hn2 : 2 ≤ n ∧ a + n ≤ nS) (ha : 0 ≤ a) (hTel : ∀ i : Int, 0 ≤ i → i < 19 → M0 1 i = tel i) (hm1 : mc ≠ 1) (hF1 : cdV M0 157 152 fxA 288) (hF2 : cdV M0 164 159 fxB 32) (G : Nat) (hG : 8 * (a + n) < G) {p0 : Int} {o0 : List Int} {G0 : Nat}
    (k0 : (∀ p o, blG (M0 sc) (8 * (a + n)) W mo G G0 p0 o0 = some (p, o) → ¬ ((p + 7) / 8 * 8 = 8 * (a + n) - 32 ∧ tld (M0 sc) ((p + 7) / 8) = adV o)) → ∀ M2 : FM, uK M0 M2 mc → K (some (ti (-1))) (sh, M2, nx, zl))
    (k1 : ∀ p o, blG (M0 sc) (8 * (a + n)) W mo G G0 p0 o0 = some (p, o) → (p + 7) / 8 * 8 = 8 * (a + n) - 32 ∧ tld (M0 sc) ((p + 7) / 8) = adV o → ∀ M2 : FM, uK M0 M2 mc → sl (M2 mc) t o.length = o → K (some (ti o.length)) (sh, M2, nx, zl)) : ∀ (g : Nat) (p k9 : Int) (o : List Int) (M1 : FM) (y11 : Option TV), 8 * (a + n) - p < g → 0 ≤ k9 → k9 ≤ p - 8 * (a + 2) → blG (M0 sc) (8 * (a + n)) W mo G G0 p0 o0 = blG (M0 sc) (8 * (a + n)) W mo G g p o → uR M0 M1 mc (some (p, o)) → fm_X (d + 3) kd139 174 [some (fx 129), some (gr sc), some (ti a), some (ti n), some (gr mc), some (ti t), some (ti mo), some (ti x), some (ti y), some (ti 0), some (ti k9), y11] [] (sh, M1, nx, zl) K := by
  have hC0 := hC
  obtain ⟨⟨⟨u1, u2⟩, u3, u4⟩, ⟨u5, u6, u7, u8⟩, ⟨u9, u10⟩, ⟨u11, u12⟩, u13, u14⟩ := hC
  have hmc : mc ≠ 129 := by omega
  have hmo : M0 129 6 - M0 129 4 = mo := by omega
  -- the loop's head, when it is over
  have OVER : ∀ (st : St) (last k9 : Int) (M1 : FM) (y11 : Option TV), uR M0 M1 mc st → (st = none ∨ last = 1) → (0 ≤ last ∧ last ≤ 1) → (0 ≤ k9 ∧ k9 ≤ 2000000) → (∀ p o, blG (M0 sc) (8 * (a + n)) W mo G G0 p0 o0 = some (p, o) ↔ st = some (p, o)) → fm_X (d + 3) kd139 174 [some (fx 129), some (gr sc), some (ti a), some (ti n), some (gr mc), some (ti t), some (ti mo), some (ti x), some (ti y), some (ti last), some (ti k9), y11] [] (sh, M1, nx, zl) K := by
    intro st last k9 M1 y11 b1 b2 b3 b4 b5
    have EX := un304 (d := d + 2) (nx := nx) (zl := zl) (K := K) (M := M1) (x := x) (y := y) (k9 := k9) (y11 := y11) hC0 hE hb hlm hn2 ha b1 b2 (fun h => k0 (fun p o z => h p o ((b5 p o).1 z))) (fun p o z => k1 p o ((b5 p o).2 z))
    refine s139_174 (d + 3) K _ _ _ ?_
    refine ⟨by omega, fun w => EX, fun w => ?_⟩
    refine ⟨by omega, fun w2 => EX, fun w2 => ?_⟩
    refine ⟨by omega, fun w3 => EX, fun w3 => ?_⟩
    rcases b2 with b2 | b2
    · rw [b2] at b1
      have := b1.2
      omega
    · omega
  intro g
  induction g with
  | zero =>
    intro p k9 o M1 y11 c1 c2 c3 c4 c5
    have := c5.2.2.1
    omega
  | succ g ih =>
    intro p k9 o M1 y11 c1 c2 c3 c4 c5
    have rp := c5.2.2.1
    have hf := c5.2.1.2.1
    rw [hE] at rp
    refine s139_174 (d + 3) K _ _ _ ?_
    refine ⟨by omega, fun w => by omega, fun w => ?_⟩
    refine ⟨by omega, fun w2 => by omega, fun w2 => ?_⟩
    refine ⟨by omega, fun w3 => by omega, fun w3 => ?_⟩
    refine bits_Y (n := 1) hC0 c5 (by omega) (fun M2 t1 t2 => ?_)
    rw [hE] at t1 ⊢
    have rb := bS_rng (M0 sc) (8 * (a + n)) 1 (some (p, o))
    have e21 : (2 : Int) ^ 1 = 2 := by decide
    -- behind a block
    have NEXT : ∀ (last : Int) (st : St) (M3 : FM) (y11 : Option TV), (0 ≤ last ∧ last ≤ 1) → uR M0 M3 mc st → (st = none → blG (M0 sc) (8 * (a + n)) W mo G (g + 1) p o = none) → (∀ p2 o2, st = some (p2, o2) → p < p2 ∧ blG (M0 sc) (8 * (a + n)) W mo G (g + 1) p o = if last = 1 then some (p2, o2) else blG (M0 sc) (8 * (a + n)) W mo G g p2 o2) → b139_298 (d + 3) (fW (d + 3) kd139 K) K [some (fx 129), some (gr sc), some (ti a), some (ti n), some (gr mc), some (ti t), some (ti mo), some (ti x), some (ti y), some (ti last), some (ti k9), y11] [] (sh, M3, nx, zl) := by
      intro last st M3 y11 b1 b2 b3 b4
      cases st with
      | none =>
        have e := c4.trans (b3 rfl)
        exact OVER none last (k9 + 1) M3 y11 b2 (Or.inl rfl) b1 (by omega) (fun p2 o2 => by rw [e])
      | some q =>
        obtain ⟨p2, o2⟩ := q
        obtain ⟨b5, b6⟩ := b4 p2 o2 rfl
        by_cases hl : last = 1
        · rw [if_pos hl] at b6
          exact OVER (some (p2, o2)) last (k9 + 1) M3 y11 b2 (Or.inr hl) b1 (by omega) (fun p3 o3 => by rw [c4.trans b6])
        · rw [if_neg hl] at b6
          have hl0 : last = 0 := by omega
          rw [hl0]
          exact ih p2 (k9 + 1) o2 M3 y11 (by omega) (by omega) (by omega) (c4.trans b6) b2
    -- with the mark of the last one
    have GO : ∀ last : Int, (0 ≤ last ∧ last ≤ 1) → (p + 3 ≤ 8 * (a + n) → last = bv (M0 sc) p 1) → b139_209 (d + 3) (fW (d + 3) kd139 K) K [some (fx 129), some (gr sc), some (ti a), some (ti n), some (gr mc), some (ti t), some (ti mo), some (ti x), some (ti y), some (ti 0), some (ti k9), y11] [ti last] (sh, M2, nx, zl) := by
      intro last b1 bl
      refine bits_Y (n := 2) hC0 t1 (by omega) (fun M3 t3 t4 => ?_)
      rw [hE] at t3 ⊢
      by_cases h3 : p + 3 ≤ 8 * (a + n)
      · have e1 : bS (M0 sc) (8 * (a + n)) 1 (some (p, o)) = (bv (M0 sc) p 1, some (p + 1, o)) := bS_pos (by omega)
        have e2 : bS (M0 sc) (8 * (a + n)) 2 (some (p + 1, o)) = (bv (M0 sc) (p + 1) 2, some (p + 3, o)) := by
          have z : bS (M0 sc) (8 * (a + n)) 2 (some (p + 1, o)) = (bv (M0 sc) (p + 1) 2, some (p + 1 + (2 : Nat), o)) := bS_pos (by omega)
          rw [show p + 1 + ((2 : Nat) : Int) = p + 3 by omega] at z
          exact z
        rw [e1] at t3 ⊢
        dsimp only at t3 ⊢
        rw [e2] at t3 ⊢
        dsimp only at t3 ⊢
        have b2 := bv_rng (M0 sc) (p + 1) 2
        have e22 : (2 : Int) ^ 2 = 4 := by decide
        have elast := bl h3
        have ec : blG (M0 sc) (8 * (a + n)) W mo G (g + 1) p o = match bkS (M0 sc) (8 * (a + n)) W mo G (p + 1) o with
            | none => none
            | some (p2, o2) => if bv (M0 sc) p 1 = 1 then some (p2, o2) else blG (M0 sc) (8 * (a + n)) W mo G g p2 o2 := if_pos h3
        have N1 : bkS (M0 sc) (8 * (a + n)) W mo G (p + 1) o = none → blG (M0 sc) (8 * (a + n)) W mo G (g + 1) p o = none := by
          intro z
          rw [ec, z]
        have N2 : ∀ p2 o2, bkS (M0 sc) (8 * (a + n)) W mo G (p + 1) o = some (p2, o2) → p < p2 ∧ blG (M0 sc) (8 * (a + n)) W mo G (g + 1) p o = if last = 1 then some (p2, o2) else blG (M0 sc) (8 * (a + n)) W mo G g p2 o2 := by
          intro p2 o2 z
          have za := bkS_adv z
          refine ⟨by omega, ?_⟩
          rw [ec, z, elast]
        have uk13 : uk2 M1 M3 := uk2_t t2 t4
        have FX : ∀ c : Nat, (150 < c ∧ c < 165) → M3 c = M0 c := fun c hc => t3.1.2.2 c (by omega) (by omega) (by omega) (by omega)
        refine ⟨by omega, fun w4 => ?_, fun w4 => ?_⟩
        · refine ⟨by omega, fun w5 => ?_, fun w5 => ?_⟩
          · -- a block with codes of its own
            have FAIL : ∀ M4 : FM, bkS (M0 sc) (8 * (a + n)) W mo G (p + 1) o = none → uK M0 M4 mc → b139_293 (d + 3) (fW (d + 3) kd139 K) K [some (fx 129), some (gr sc), some (ti a), some (ti n), some (gr mc), some (ti t), some (ti mo), some (ti x), some (ti y), some (ti last), some (ti k9), some (ti (bv (M0 sc) (p + 1) 2))] [] (sh, M4, nx, zl) := by
              intro M4 x1 x2
              refine ⟨Or.inr rfl, ?_⟩
              have zz := uX_fail (K2 := fun M5 => uR M0 M5 mc none) hmc x2 (fun M5 h _ => h)
              exact NEXT last none _ _ b1 zz (fun _ => N1 x1) (fun p2 o2 z => by cases z)
            refine ⟨by omega, fun w6 => ?_, fun w6 => ?_⟩
            · refine FAIL M3 ?_ t3.1
              unfold bkS
              rw [if_neg w4, if_neg w5, if_neg w6]
            · have ek : bkS (M0 sc) (8 * (a + n)) W mo G (p + 1) o = dyS (M0 sc) (8 * (a + n)) W mo G (p + 3) o := by
                unfold bkS
                rw [if_neg w4, if_neg w5, if_pos (by omega), show p + 1 + 2 = p + 3 by omega]
              have hTH := bv_rng (M0 sc) (p + 3) 5
              have hTD := bv_rng (M0 sc) (p + 3 + 5) 5
              have e25 : (2 : Int) ^ 5 = 32 := by decide
              refine takeTellers_Y hC0 hTel hm1 t3 (fun M4 x1 x2 => ?_) (fun M4 x1 x2 x3 x4 x5 => ?_)
              · rw [hE] at x1
                refine ⟨by omega, fun _ => FAIL M4 ?_ x2, fun z => absurd rfl z⟩
                rw [ek]
                unfold dyS
                rw [cif_neg x1]
              · rw [hE] at x1
                refine ⟨by omega, fun z => by omega, fun _ => ?_⟩
                have thr : 257 ≤ teH (M0 sc) (p + 3) ∧ teH (M0 sc) (p + 3) ≤ 286 := ⟨by unfold teH; omega, x1.2.1⟩
                have tdr : 1 ≤ teD (M0 sc) (p + 3) ∧ teD (M0 sc) (p + 3) ≤ 30 := ⟨by unfold teD; omega, x1.2.2.1⟩
                have hp4 := x2.2.2.1.1
                refine takeLengths_Y (G := G) hC0 (by omega) x2 x3 x4 (by omega) tdr x5 (by omega) (fun M5 y1 y2 => ?_) (fun M5 p5 r y1 y2 y3 y4 y5 => ?_)
                · rw [hE] at y1
                  refine ⟨by omega, fun _ => FAIL M5 ?_ y2, fun z => absurd rfl z⟩
                  rw [ek]
                  unfold dyS
                  rw [cif_pos x1, y1]
                · rw [hE] at y1
                  refine ⟨by omega, fun z => by omega, fun _ => ?_⟩
                  refine takeCodes_Y hC0 y2 y4 y5 thr tdr y3 (fun M6 z1 z2 => ?_) (fun M6 z1 z2 z3 z4 => ?_)
                  · refine ⟨by omega, fun _ => FAIL M6 ?_ z2, fun z => absurd rfl z⟩
                    rw [ek]
                    unfold dyS
                    rw [cif_pos x1, y1]
                    exact cif_neg z1
                  · refine ⟨by omega, fun z => by omega, fun _ => ?_⟩
                    have hp6 := z2.2.2.1.1
                    refine takeSymbols_Y (G := G) hC0 (cd130 sh) (by omega) (cd137 sh) (by omega) (by omega) z3 z4 (by omega) z2 (by omega) (fun M7 v1 v2 => ?_)
                    rw [hE, hW, hmo] at v1
                    have ed : bkS (M0 sc) (8 * (a + n)) W mo G (p + 1) o = smG (M0 sc) (8 * (a + n)) r (teH (M0 sc) (p + 3)).toNat (fun s => r (teH (M0 sc) (p + 3) + s)) (teD (M0 sc) (p + 3)).toNat W mo G p5 o := by
                      rw [ek]
                      unfold dyS
                      rw [cif_pos x1, y1]
                      exact cif_pos z1
                    rw [← ed] at v1
                    exact NEXT last _ M7 _ b1 v1 N1 N2
          · -- the fixed codes
            have ek : bkS (M0 sc) (8 * (a + n)) W mo G (p + 1) o = smG (M0 sc) (8 * (a + n)) fxA 288 fxB 32 W mo G (p + 3) o := by
              unfold bkS
              rw [if_neg w4, if_pos (by omega), show p + 1 + 2 = p + 3 by omega]
            have hp4 := t3.2.2.1.1
            refine takeSymbols_Y (G := G) hC0 (cd151 sh) (Nat.le_refl 288) (cd158 sh) (Nat.le_refl 32) (Nat.le_refl 32) (cdV_to hF1 (FX 157 (by omega)) (FX 152 (by omega))) (cdV_to hF2 (FX 164 (by omega)) (FX 159 (by omega))) (by omega) t3 (by omega) (fun M7 v1 v2 => ?_)
            rw [hE, hW, hmo, ← ek] at v1
            exact NEXT last _ M7 _ b1 v1 N1 N2
        · -- stored
          have ek : bkS (M0 sc) (8 * (a + n)) W mo G (p + 1) o = stO (M0 sc) (8 * (a + n)) mo (some (p + 3, o)) := by
            unfold bkS
            rw [if_pos (by omega), show p + 1 + 2 = p + 3 by omega]
            rfl
          refine copyStored_Y hC0 (by omega) t3 (fun M7 v1 v2 => ?_)
          rw [hE, hmo, ← ek] at v1
          exact NEXT last _ M7 _ b1 v1 N1 N2
      · have hn : bS (M0 sc) (8 * (a + n)) 2 (bS (M0 sc) (8 * (a + n)) 1 (some (p, o))).2 = (0, none) := by
          by_cases a1 : p + 1 ≤ 8 * (a + n)
          · have e1 : bS (M0 sc) (8 * (a + n)) 1 (some (p, o)) = (bv (M0 sc) p 1, some (p + 1, o)) := bS_pos (by omega)
            rw [e1]
            exact bS_neg (by omega)
          · have e1 : bS (M0 sc) (8 * (a + n)) 1 (some (p, o)) = (0, none) := bS_neg (by omega)
            rw [e1]
            rfl
        rw [hn] at t3 ⊢
        have ec : blG (M0 sc) (8 * (a + n)) W mo G (g + 1) p o = none := if_neg h3
        refine ⟨by omega, fun w4 => by omega, fun w4 => ?_⟩
        refine copyStored_Y hC0 (by omega) t3 (fun M7 v1 v2 => ?_)
        exact NEXT last none M7 _ b1 v1 (fun _ => ec) (fun p2 o2 z => by cases z)
    have eL : p + 3 ≤ 8 * (a + n) → (bS (M0 sc) (8 * (a + n)) 1 (some (p, o))).1 = bv (M0 sc) p 1 := by
      intro h3
      have e1 : bS (M0 sc) (8 * (a + n)) 1 (some (p, o)) = (bv (M0 sc) p 1, some (p + 1, o)) := bS_pos (by omega)
      rw [e1]
    refine ⟨by omega, fun w4 => GO 0 (by omega) (fun h3 => ?_), fun w4 => GO 1 (by omega) (fun h3 => ?_)⟩
    · rw [← eL h3]
      omega
    · rw [← eL h3]
      omega
end UNPACK
