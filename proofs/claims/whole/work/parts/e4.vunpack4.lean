/-! UNPACKING, the reference: the call -/
section VUNPACK4
variable {d nx zl : Nat} {K : Option TV → FH → Prop} {sh : Nat → Option Shp} {M : FM} {sc tc nS nT : Nat} {a n mo : Int}
theorem vB_f (M : FM) (sc tc : Nat) (a n mo : Int) : (vB M sc tc a n mo 168 50 = sc ∧ vB M sc tc a n mo 168 51 = a ∧ vB M sc tc a n mo 168 52 = 8 * n ∧ vB M sc tc a n mo 168 53 = 0) ∧ (vB M sc tc a n mo 168 54 = 0 ∧ vB M sc tc a n mo 168 55 = tc ∧ vB M sc tc a n mo 168 56 = 0 ∧ vB M sc tc a n mo 168 57 = mo) ∧ (∀ i : Int, (i < 50 ∨ 57 < i) → vB M sc tc a n mo 168 i = M 168 i) ∧ ∀ c : Nat, c ≠ 168 → vB M sc tc a n mo c = M c := by
  unfold vB
  refine ⟨⟨?_, ?_, ?_, ?_⟩, ⟨?_, ?_, ?_, ?_⟩, fun i hi => ?_, fun c hc => ?_⟩
  · rw [pg_ne _ _ _ (by omega), pg_ne _ _ _ (by omega), pg_ne _ _ _ (by omega), pg_ne _ _ _ (by omega), pg_ne _ _ _ (by omega), pg_ne _ _ _ (by omega), pg_ne _ _ _ (by omega), pg_at]
  · rw [pg_ne _ _ _ (by omega), pg_ne _ _ _ (by omega), pg_ne _ _ _ (by omega), pg_ne _ _ _ (by omega), pg_ne _ _ _ (by omega), pg_ne _ _ _ (by omega), pg_at]
  · rw [pg_ne _ _ _ (by omega), pg_ne _ _ _ (by omega), pg_ne _ _ _ (by omega), pg_ne _ _ _ (by omega), pg_ne _ _ _ (by omega), pg_at]
  · rw [pg_ne _ _ _ (by omega), pg_ne _ _ _ (by omega), pg_ne _ _ _ (by omega), pg_ne _ _ _ (by omega), pg_at]
  · rw [pg_ne _ _ _ (by omega), pg_ne _ _ _ (by omega), pg_ne _ _ _ (by omega), pg_at]
  · rw [pg_ne _ _ _ (by omega), pg_ne _ _ _ (by omega), pg_at]
  · rw [pg_ne _ _ _ (by omega), pg_at]
  · rw [pg_at]
  · rw [pg_ne _ _ _ (by omega), pg_ne _ _ _ (by omega), pg_ne _ _ _ (by omega), pg_ne _ _ _ (by omega), pg_ne _ _ _ (by omega), pg_ne _ _ _ (by omega), pg_ne _ _ _ (by omega), pg_ne _ _ _ (by omega)]
  · rw [pg_o _ _ _ hc, pg_o _ _ _ hc, pg_o _ _ _ hc, pg_o _ _ _ hc, pg_o _ _ _ hc, pg_o _ _ _ hc, pg_o _ _ _ hc, pg_o _ _ _ hc]
/-- what an unpacked row leaves -/
def vnF (M M2 : FM) (tc : Nat) (mo : Int) : Prop := (∀ c : Nat, c ≠ 168 → c ≠ tc → (c < 195 ∨ 210 < c) → M2 c = M c) ∧ (∀ i : Int, (i < 50 ∨ 57 < i) → M2 168 i = M 168 i) ∧ ∀ j : Int, (j < 0 ∨ mo ≤ j) → M2 tc j = M tc j
theorem munpack_Y (hs : shp sh sc = some (.inl (.byte, nS))) (hm : shp sh tc = some (.inl (.byte, nT))) (hne : sc ≠ tc ∧ (sc ≠ 168 ∧ (sc < 195 ∨ 210 < sc)) ∧ (tc ≠ 168 ∧ (tc < 195 ∨ 210 < tc)) ∧ 3 ≤ tc) (hN : nS ≤ 131072 ∧ nT ≤ 131072) (ha : 0 ≤ a) (hn : 0 ≤ n) (han : a + n ≤ nS) (hmo : 0 ≤ mo ∧ mo ≤ nT)
    (k0 : unS (M sc) a n mo = none → ∀ M2 : FM, vnF M M2 tc mo → K (some (ti (-1))) (sh, M2, nx, zl))
    (k1 : ∀ o : List Int, unS (M sc) a n mo = some o → ∀ M2 : FM, vnF M M2 tc mo → sl (M2 tc) 0 o.length = o → K (some (ti o.length)) (sh, M2, nx, zl)) : fm_Y (d + 4) 329 [.ref 168, .ref sc, .int (Int32.ofInt a), .int (Int32.ofInt n), .ref tc, .int (Int32.ofInt mo)] (sh, M, nx, zl) K := by
  obtain ⟨u5, u6, u7, u8⟩ := hne
  refine m329 [fx 168, gr sc, ti a, ti n, gr tc, ti mo] ?_
  refine ⟨Or.inl rfl, ?_⟩
  obtain ⟨M0, g0⟩ : ∃ M0 : FM, M0 = vB M sc tc a n mo := ⟨_, rfl⟩
  obtain ⟨⟨f0, f1, f2, f3⟩, ⟨f4, f5, f6, f7⟩, f8, fo⟩ := vB_f M sc tc a n mo
  rw [← g0] at f0 f1 f2 f3 f4 f5 f6 f7 f8 fo
  have hC : vC sh M0 sc tc nS nT := ⟨⟨⟨f0, f5⟩, hs, hm⟩, ⟨u5, u6, u7, u8⟩, hN, by omega, by omega⟩
  have hE : vE M0 = 8 * (a + n) := by
    unfold vE
    omega
  have es : M0 sc = M sc := fo sc u6.1
  have et : M0 tc = M tc := fo tc u7.1
  have hR0 : vR M0 M0 tc (some (8 * a, [])) := by
    refine ⟨⟨fun _ _ _ _ => rfl, fun _ _ => rfl, fun _ _ _ _ => rfl⟩, ⟨by omega, by rw [f4]; rfl, by rw [f6]; rfl, rfl⟩, by omega, ?_⟩
    rw [f7]
    show ((0 : Nat) : Int) ≤ mo
    omega
  have UF : ∀ M2 : FM, vK M0 M2 tc → vnF M M2 tc mo := by
    intro M2 ⟨q1, q2, q3⟩
    refine ⟨fun c c1 c2 c3 => (q3 c c1 c2 c3).trans (fo c c1), fun i hi => (q1 i (by omega) (by omega) (by omega)).trans (f8 i hi), fun j hj => ?_⟩
    rw [q2 j (by omega), et]
  have TL : o_al 0 (o_ic 8 (o_callv (d + 3) 330 1 12 (o_is 6 (o_al 0 (o_ic 8 (o_callv (d + 3) 330 1 12 (o_is 7 (o_al 0 (o_al 0 (o_get 12 54 54 (o_if .ne (b329_115 (d + 3) (fW (d + 3) kd329 K) K) (o_ic 256 (o_il 6 (o_imul (o_il 7 (o_iadd (o_ic 31 (o_irem (o_if .ne (b329_115 (d + 3) (fW (d + 3) kd329 K) K) (o_il 6 (o_ic 16 (o_irem (o_ic 8 (b329_91 (d + 3) (fW (d + 3) kd329 K) K)))))))))))))))))))))))) [some (fx 168), some (gr sc), some (ti a), some (ti n), some (gr tc), some (ti mo), none, none, none, none, none, none] [] (sh, M0, nx, zl) := by
    refine readNumber_Y (n := 8) hC hR0 (by omega) (fun x M1 a1 a2 a3 a4 => ?_)
    refine readNumber_Y (n := 8) hC a1 (by omega) (fun y M2 b1 b2 b3 b4 => ?_)
    have e256 : (2 : Int) ^ 8 = 256 := by decide
    rw [hE, es] at a3 b1 b3
    have NO : ¬ (2 ≤ n ∧ (256 * (M sc a % 256) + M sc (a + 1) % 256) % 31 = 0 ∧ M sc a % 256 % 16 = 8 ∧ M sc a % 256 / 16 ≤ 7 ∧ M sc (a + 1) % 256 / 32 % 2 = 0) → ∀ st : St, vR M0 M2 tc st → b329_115 (d + 3) (fW (d + 3) kd329 K) K [some (fx 168), some (gr sc), some (ti a), some (ti n), some (gr tc), some (ti mo), some (ti x), some (ti y), none, none, none, none] [fx 168] (sh, M2, nx, zl) := by
      intro hz st hR2
      have hz2 : unS (M sc) a n mo = none := by
        unfold unS
        rw [if_neg hz]
      refine ⟨Or.inr rfl, ?_⟩
      have zW := (vW1 (tc_far hC).1 hR2).1
      have EX := v286 (d := d + 1) (nx := nx) (zl := zl) (K := K) (M := um M2 168 (ur (M2 168) 54 1)) (a := a) (n := n) (mo := mo) (x := x) (y := y) (last := 0) (y9 := none) (y10 := none) (y11 := none) hC hE ⟨f1, f2⟩ zW (fun _ M4 h4 => k0 hz2 M4 (UF M4 h4)) (fun p o z => by cases z)
      refine s329_126 (d + 3) K _ _ _ ?_
      have hf := zW.2.1
      refine ⟨by omega, fun w2 => EX, fun w2 => ?_⟩
      exact ⟨by omega, fun w3 => EX, fun w3 => by omega⟩
    by_cases h2 : 2 ≤ n
    · have e1 : bS (M sc) (8 * (a + n)) 8 (some (8 * a, [])) = (bv (M sc) (8 * a) 8, some (8 * a + 8, [])) := bS_pos (by omega)
      have e2 : bS (M sc) (8 * (a + n)) 8 (some (8 * a + 8, [])) = (bv (M sc) (8 * a + 8) 8, some (8 * (a + 2), [])) := by
        have z : bS (M sc) (8 * (a + n)) 8 (some (8 * a + 8, [])) = (bv (M sc) (8 * a + 8) 8, some (8 * a + 8 + (8 : Nat), [])) := bS_pos (by omega)
        rw [show 8 * a + 8 + ((8 : Nat) : Int) = 8 * (a + 2) by omega] at z
        exact z
      rw [e1] at a3 b1 b3
      dsimp only at a3 b1 b3
      rw [e2] at b1 b3
      have ex : x = M sc a % 256 := by
        rw [a3 (fun z => by cases z), bv8 _ (by omega), show 8 * a / 8 = a by omega]
      have ey : y = M sc (a + 1) % 256 := by
        rw [b3 (fun z => by cases z)]
        show bv (M sc) (8 * a + 8) 8 = _
        rw [bv8 _ (by omega), show (8 * a + 8) / 8 = a + 1 by omega]
      have b1' : vR M0 M2 tc (some (8 * (a + 2), [])) := b1
      rw [← ex, ← ey] at NO
      have hf := b1'.2.1.2.1
      refine ⟨by omega, fun w => by omega, fun w => ?_⟩
      refine ⟨by omega, ?_⟩
      refine ⟨by omega, fun w2 => NO (fun z => w2 z.2.1) _ b1', fun w2 => ?_⟩
      refine ⟨by omega, ?_⟩
      refine ⟨by omega, fun w3 => NO (fun z => w3 z.2.2.1) _ b1', fun w3 => ?_⟩
      refine ⟨by omega, ?_⟩
      refine ⟨by omega, fun w4 => NO (fun z => by omega) _ b1', fun w4 => ?_⟩
      refine ⟨by omega, ?_⟩
      refine ⟨by omega, ?_⟩
      refine ⟨by omega, fun w5 => ?_, fun w5 => NO (fun z => by omega) _ b1'⟩
      refine ⟨Or.inl rfl, ?_⟩
      have c9 : 2 ≤ n ∧ (256 * (M sc a % 256) + M sc (a + 1) % 256) % 31 = 0 ∧ M sc a % 256 % 16 = 8 ∧ M sc a % 256 / 16 ≤ 7 ∧ M sc (a + 1) % 256 / 32 % 2 = 0 := by
        rw [← ex, ← ey]
        omega
      obtain ⟨W, hWd⟩ : ∃ W : Int, W = 256 * 2 ^ (x / 16).toNat := ⟨_, rfl⟩
      have hU : unS (M sc) a n mo = (match blG (M sc) (8 * (a + n)) W mo ((8 * (a + n)).toNat + 1) ((8 * (a + n)).toNat + 1) (8 * (a + 2)) [] with
          | none => none
          | some (p, o) => if (p + 7) / 8 * 8 = 8 * (a + n) - 32 ∧ tld (M sc) ((p + 7) / 8) = adV o then some o else none) := by
        unfold unS
        rw [if_pos c9, hWd, ex]
        rfl
      refine v126 (W := W) (p0 := 8 * (a + 2)) (o0 := []) (G0 := (8 * (a + n)).toNat + 1) hC hE ⟨f1, f2⟩ f7 (by omega) hWd ((8 * (a + n)).toNat + 1) (by omega) (by omega) (fun h M4 hK => ?_) (fun p o h1 h3 M4 hK hsl => ?_) ((8 * (a + n)).toNat + 1) (8 * (a + 2)) [] _ _ _ _ (by omega) rfl (vW0 (tc_far hC).1 b1' hf).1
      · refine k0 ?_ M4 (UF M4 hK)
        rw [hU]
        rw [es] at h
        cases hb : blG (M sc) (8 * (a + n)) W mo ((8 * (a + n)).toNat + 1) ((8 * (a + n)).toNat + 1) (8 * (a + 2)) [] with
        | none => rfl
        | some q =>
          obtain ⟨p, o⟩ := q
          show (if (p + 7) / 8 * 8 = 8 * (a + n) - 32 ∧ tld (M sc) ((p + 7) / 8) = adV o then some o else none) = none
          rw [if_neg (h p o hb)]
      · rw [es] at h1 h3
        refine k1 o ?_ M4 (UF M4 hK) hsl
        rw [hU, h1]
        exact if_pos h3
    · have hn2 : (bS (M sc) (8 * (a + n)) 8 (bS (M sc) (8 * (a + n)) 8 (some (8 * a, []))).2).2 = none := by
        by_cases c1 : 8 * a + ((8 : Nat) : Int) ≤ 8 * (a + n)
        · rw [bS_pos c1]
          show (bS (M sc) (8 * (a + n)) 8 (some (8 * a + ((8 : Nat) : Int), []))).2 = none
          rw [bS_neg (by omega)]
        · rw [bS_neg c1]
          rfl
      rw [hn2] at b1
      have hf := b1.2.1
      refine ⟨by omega, fun w => NO (fun z => h2 z.1) none b1, fun w => by omega⟩
  rw [g0] at TL
  exact TL
end VUNPACK4
