/-! UNPACKING, the reference: stored bytes -/
theorem bv8 (f : Int → Int) {p : Int} (hp : p % 8 = 0) : bv f p 8 = f (p / 8) % 256 := by
  have h : ∀ k : Nat, k < 8 → bt f (p + k) = f (p / 8) / 2 ^ k % 2 := by
    intro k hk
    unfold bt
    rw [show (p + (k : Int)) / 8 = p / 8 by omega, show ((p + (k : Int)) % 8).toNat = k by omega]
  show ((((((((0 + bt f (p + ((0 : Nat) : Int)) * 2 ^ 0) + bt f (p + ((1 : Nat) : Int)) * 2 ^ 1) + bt f (p + ((2 : Nat) : Int)) * 2 ^ 2) + bt f (p + ((3 : Nat) : Int)) * 2 ^ 3) + bt f (p + ((4 : Nat) : Int)) * 2 ^ 4) + bt f (p + ((5 : Nat) : Int)) * 2 ^ 5) + bt f (p + ((6 : Nat) : Int)) * 2 ^ 6) + bt f (p + ((7 : Nat) : Int)) * 2 ^ 7) = f (p / 8) % 256
  rw [h 0 (by omega), h 1 (by omega), h 2 (by omega), h 3 (by omega), h 4 (by omega), h 5 (by omega), h 6 (by omega), h 7 (by omega)]
  rw [show (2 : Int) ^ 0 = 1 from rfl, show (2 : Int) ^ 1 = 2 from rfl, show (2 : Int) ^ 2 = 4 from rfl, show (2 : Int) ^ 3 = 8 from rfl, show (2 : Int) ^ 4 = 16 from rfl, show (2 : Int) ^ 5 = 32 from rfl, show (2 : Int) ^ 6 = 64 from rfl, show (2 : Int) ^ 7 = 128 from rfl]
  generalize f (p / 8) = x
  omega
def ldS (f : Int → Int) (E mo : Int) (r : Nat) (p : Int) (o : List Int) : St := if p + 8 * r ≤ E ∧ (o.length : Int) + r ≤ mo then some (p + 8 * r, o ++ sl f (p / 8) r) else none
theorem ldS_step {f : Int → Int} {E mo p : Int} {r : Nat} {o : List Int} (hp : p % 8 = 0) : ldS f E mo (r + 1) p o = ldS f E mo r (p + 8) (o ++ [f (p / 8) % 256]) := by
  have hl : (o ++ [f (p / 8) % 256]).length = o.length + 1 := by simp
  unfold ldS
  rw [hl]
  by_cases c : p + 8 * ((r + 1 : Nat) : Int) ≤ E ∧ (o.length : Int) + ((r + 1 : Nat) : Int) ≤ mo
  · rw [if_pos c, if_pos (by omega), show p + 8 * ((r + 1 : Nat) : Int) = p + 8 + 8 * (r : Int) by omega]
    have e : sl f (p / 8) (r + 1) = f (p / 8) % 256 :: sl f (p / 8 + 1) r := rfl
    rw [e, show (p + 8) / 8 = p / 8 + 1 by omega, List.append_assoc]
    rfl
  · rw [if_neg c, if_neg (by omega)]
section VSTORED
variable {d nx zl : Nat} {K : Option TV → FH → Prop} {sh : Nat → Option Shp} {M0 M : FM} {sc tc nS nT : Nat} {st : St}
theorem vX43 {n q : Int} (hn : (0 ≤ n ∧ n ≤ 100000) ∧ (0 ≤ q ∧ q ≤ 100000)) (hR : vR M0 M tc none) (k : K none (sh, M, nx, zl)) : fm_X d kd332 43 [some (fx 168), some (ti n), some (ti q)] [] (sh, M, nx, zl) K := by
  have hf := hR.2.1
  refine s332_43 d K _ _ _ ?_
  refine ⟨by omega, fun w => k, fun w => ?_⟩
  exact ⟨by omega, fun w => k, fun w => by omega⟩
theorem readStored_Y (hC : vC sh M0 sc tc nS nT) (hR : vR M0 M tc st) (k : ∀ M2 : FM, vR M0 M2 tc (stO (M0 sc) (vE M0) (M0 168 57) st) → wk3 M M2 tc → K none (sh, M2, nx, zl)) : fm_Y (d + 3) 332 [.ref 168] (sh, M, nx, zl) K := by
  have hC0 := hC
  obtain ⟨⟨⟨u1, u2⟩, u3, u4⟩, ⟨u5, ⟨u6, u6b⟩, ⟨u7, u7b⟩, u8⟩, ⟨u9, u10⟩, ⟨u11, u12, u12b, u12c⟩, u13⟩ := hC
  refine m332 [fx 168] ?_
  refine toByte_Y hC0 hR (fun M1 t1 t2 => ?_)
  refine readNumber_Y (n := 16) hC0 t1 (by omega) (fun v1 M2 a1 a2 a3 a4 => ?_)
  refine readNumber_Y (n := 16) hC0 a1 (by omega) (fun v2 M3 b1 b2 b3 b4 => ?_)
  have e16 : (2 : Int) ^ 16 = 65536 := by decide
  have x2 : wk2 M M3 := wk2_t t2 (wk2_t a2 b2)
  obtain ⟨r1, g1⟩ : ∃ r1, r1 = bS (M0 sc) (vE M0) 16 (tbS st) := ⟨_, rfl⟩
  rw [← g1] at a3 b1 b3
  obtain ⟨r2, g2⟩ : ∃ r2, r2 = bS (M0 sc) (vE M0) 16 r1.2 := ⟨_, rfl⟩
  rw [← g2] at b1 b3
  -- wrong
  have X33 : stO (M0 sc) (vE M0) (M0 168 57) st = none → b332_33 (d + 2) (fW (d + 2) kd332 K) K [some (fx 168), some (ti v1), none] [fx 168] (sh, M3, nx, zl) := by
    intro hz
    rw [hz] at k
    refine ⟨Or.inr rfl, ?_⟩
    obtain ⟨z1, z2⟩ := vW1 u7 b1
    exact vX43 (by omega) z1 (k _ z1 (wk2_3 (wk2_t x2 z2)))
  cases hs : r2.2 with
  | none =>
    rw [hs] at b1
    have hz : stO (M0 sc) (vE M0) (M0 168 57) st = none := by
      cases st with
      | none => rfl
      | some q0 =>
        obtain ⟨p, o⟩ := q0
        show stS (M0 sc) (vE M0) (M0 168 57) p o = none
        unfold stS
        refine if_neg (fun z => ?_)
        have e1 : r1 = (bv (M0 sc) ((p + 7) / 8 * 8) 16, some ((p + 7) / 8 * 8 + (16 : Nat), o)) := by
          rw [g1]
          exact bS_pos (by omega)
        have e2 : r2 = (bv (M0 sc) ((p + 7) / 8 * 8 + (16 : Nat)) 16, some ((p + 7) / 8 * 8 + (16 : Nat) + (16 : Nat), o)) := by
          rw [g2, e1]
          exact bS_pos (by omega)
        rw [e2] at hs
        cases hs
    have hf := b1.2.1
    refine ⟨by omega, fun w => X33 hz, fun w => ?_⟩
    refine ⟨by omega, fun w2 => by omega, fun w2 => X33 hz⟩
  | some q2 =>
    obtain ⟨p2, o2⟩ := q2
    cases st with
    | none =>
      have e1 : r1 = (0, none) := g1
      rw [e1] at g2
      have e2 : r2 = (0, none) := g2
      rw [e2] at hs
      cases hs
    | some q0 =>
      obtain ⟨p, o⟩ := q0
      obtain ⟨q, hq⟩ : ∃ q : Int, q = (p + 7) / 8 * 8 := ⟨_, rfl⟩
      have g1' : r1 = bS (M0 sc) (vE M0) 16 (some (q, o)) := by
        rw [g1, hq]
        rfl
      have h16 : q + 32 ≤ vE M0 := by
        by_cases c1 : q + ((16 : Nat) : Int) ≤ vE M0
        · by_cases c2 : q + ((16 : Nat) : Int) + ((16 : Nat) : Int) ≤ vE M0
          · omega
          · rw [g2, g1', bS_pos c1] at hs
            have hs' : (bS (M0 sc) (vE M0) 16 (some (q + ((16 : Nat) : Int), o))).2 = some (p2, o2) := hs
            rw [bS_neg c2] at hs'
            cases hs'
        · rw [g2, g1', bS_neg c1] at hs
          have hs' : (bS (M0 sc) (vE M0) 16 none).2 = some (p2, o2) := hs
          cases hs'
      have e1 : r1 = (bv (M0 sc) q 16, some (q + 16, o)) := by
        rw [g1']
        exact bS_pos (by omega)
      have e2 : r2 = (bv (M0 sc) (q + 16) 16, some (q + 32, o)) := by
        rw [g2, e1]
        have z : bS (M0 sc) (vE M0) 16 (some (q + 16, o)) = (bv (M0 sc) (q + 16) 16, some (q + 16 + (16 : Nat), o)) := bS_pos (by omega)
        rw [show q + 16 + ((16 : Nat) : Int) = q + 32 by omega] at z
        exact z
      rw [e1] at a3
      rw [e2] at b1 b3
      dsimp only at a3 b1 b3
      have ev1 : v1 = bv (M0 sc) q 16 := a3 (fun z => by cases z)
      have ev2 : v2 = bv (M0 sc) (q + 16) 16 := b3 (fun z => by cases z)
      have ek : stO (M0 sc) (vE M0) (M0 168 57) (some (p, o)) = if q + 32 ≤ vE M0 ∧ v1 + v2 = 65535 ∧ q + 32 + 8 * v1 ≤ vE M0 ∧ o.length + v1 ≤ M0 168 57 then some (q + 32 + 8 * v1, o ++ sl (M0 sc) (q / 8 + 4) v1.toNat) else none := by
        show stS (M0 sc) (vE M0) (M0 168 57) p o = _
        unfold stS
        rw [← hq, show (p + 7) / 8 = q / 8 by omega, ev1, ev2]
      have hf := b1.2.1.2.1
      have hq8 : q % 8 = 0 := by omega
      refine ⟨by omega, fun w => X33 (by rw [ek, if_neg (by omega)]), fun w => ?_⟩
      refine ⟨by omega, fun w2 => ?_, fun w2 => by omega⟩
      refine ⟨Or.inl rfl, ?_⟩
      obtain ⟨z1, z2⟩ := vW0 u7 b1 hf
      have ek2 : stO (M0 sc) (vE M0) (M0 168 57) (some (p, o)) = ldS (M0 sc) (vE M0) (M0 168 57) v1.toNat (q + 32) o := by
        rw [ek]
        unfold ldS
        by_cases c : q + 32 + 8 * v1 ≤ vE M0 ∧ (o.length : Int) + v1 ≤ M0 168 57
        · rw [if_pos (by omega), if_pos (by omega), show q + 32 + 8 * ((v1.toNat : Nat) : Int) = q + 32 + 8 * v1 by omega, show (q + 32) / 8 = q / 8 + 4 by omega]
        · rw [if_neg (by omega), if_neg (by omega)]
      rw [ek2] at k
      have L : ∀ (r : Nat) (i p3 : Int) (o3 : List Int) (M4 : FM), i + r = v1 → 0 ≤ i → p3 % 8 = 0 → ldS (M0 sc) (vE M0) (M0 168 57) v1.toNat (q + 32) o = ldS (M0 sc) (vE M0) (M0 168 57) r p3 o3 → vR M0 M4 tc (some (p3, o3)) → wk3 M M4 tc → fm_X (d + 2) kd332 43 [some (fx 168), some (ti v1), some (ti i)] [] (sh, M4, nx, zl) K := by
        intro r
        induction r with
        | zero =>
          intro i p3 o3 M4 c1 c2 c3 c4 c5 c6
          have y1 := c5.2.1.1
          have y2 := c5.2.2.1
          have y3 := c5.2.2.2
          have e : ldS (M0 sc) (vE M0) (M0 168 57) 0 p3 o3 = some (p3, o3) := by
            unfold ldS
            rw [if_pos (by unfold vE; omega), show p3 + 8 * ((0 : Nat) : Int) = p3 by omega]
            show some (p3, o3 ++ []) = _
            rw [List.append_nil]
          rw [c4, e] at k
          refine s332_43 (d + 2) K _ _ _ ?_
          refine ⟨by omega, fun w => k M4 c5 c6, fun w => by omega⟩
        | succ r ih =>
          intro i p3 o3 M4 c1 c2 c3 c4 c5 c6
          have hf4 := c5.2.1.2.1
          have y3 := c5.2.2.2
          refine s332_43 (d + 2) K _ _ _ ?_
          refine ⟨by omega, fun w => by omega, fun w => ?_⟩
          refine ⟨by omega, fun w => by omega, fun w => ?_⟩
          refine readNumber_Y (n := 8) hC0 c5 (by omega) (fun v M5 f1 f2 f3 f4 => ?_)
          refine makeByte_Y hC0 f1 (fun M6 h1 h2 => ?_)
          have c7 := wk3_t c6 (wk3_t (wk2_3 (tc := tc) f2) h2)
          by_cases hin : p3 + 8 ≤ vE M0
          · have eb : bS (M0 sc) (vE M0) 8 (some (p3, o3)) = (bv (M0 sc) p3 8, some (p3 + 8, o3)) := bS_pos hin
            rw [eb] at f3 h1
            have ev : v = bv (M0 sc) p3 8 := f3 (fun z => by cases z)
            rw [bv8 _ c3] at ev
            dsimp only at h1
            by_cases hlt : (o3.length : Int) < M0 168 57
            · have es : pS (M0 168 57) v (some (p3 + 8, o3)) = some (p3 + 8, o3 ++ [M0 sc (p3 / 8) % 256]) := by
                have z : pS (M0 168 57) v (some (p3 + 8, o3)) = some (p3 + 8, o3 ++ [v % 256]) := if_pos hlt
                rw [z, ev, show M0 sc (p3 / 8) % 256 % 256 = M0 sc (p3 / 8) % 256 by omega]
              rw [es] at h1
              exact ih (i + 1) (p3 + 8) _ M6 (by omega) (by omega) (by omega) (by rw [c4, ldS_step c3]) h1 c7
            · have es : pS (M0 168 57) v (some (p3 + 8, o3)) = none := if_neg hlt
              rw [es] at h1
              have e : ldS (M0 sc) (vE M0) (M0 168 57) (r + 1) p3 o3 = none := if_neg (by omega)
              rw [c4, e] at k
              exact vX43 (by omega) h1 (k M6 h1 c7)
          · have eb : bS (M0 sc) (vE M0) 8 (some (p3, o3)) = (0, none) := bS_neg hin
            rw [eb] at h1
            have h1' : vR M0 M6 tc none := h1
            have e : ldS (M0 sc) (vE M0) (M0 168 57) (r + 1) p3 o3 = none := if_neg (by omega)
            rw [c4, e] at k
            exact vX43 (by omega) h1' (k M6 h1' c7)
      exact L v1.toNat 0 (q + 32) o _ (by omega) (by omega) (by omega) rfl z1 (wk2_3 (wk2_t x2 z2))
end VSTORED
