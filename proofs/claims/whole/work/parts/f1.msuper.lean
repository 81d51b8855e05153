/-! MOUNTING: the first part of an image; the reference -/
def suM (f : Int → Int) (M2 : FM) : Prop := (M2 168 92 = le f 4 4 ∧ M2 168 93 = le f 12 4 ∧ M2 168 94 = le f 16 4 ∧ M2 168 95 = le f 26 2) ∧ (M2 168 96 = s64 (le f 32 8) ∧ M2 168 97 = s64 (le f 40 8) ∧ M2 168 98 = s64 (le f 64 8) ∧ M2 168 99 = s64 (le f 72 8)) ∧ (M2 168 100 = s64 (le f 80 8) ∧ M2 168 101 = s64 (le f 88 8) ∧ M2 168 102 = s64 (le f 48 8))
theorem le_42 (f : Int → Int) (p : Int) : le f p 4 = le f p 2 + 65536 * le f (p + 2) 2 := by
  rw [le_4, le_2, le_2, show p + 2 + 1 = p + 3 by omega]
  omega
section MSUPER
variable {d nx zl : Nat} {K : Option TV → FH → Prop} {sh : Nat → Option Shp} {M : FM}
theorem told_Y {p c : Int} {m : Nat} (h0 : 0 ≤ p) (hp : p + m ≤ 131072) (hm : 1 ≤ m) (hc : Int64.ofInt (le (M 211) p m) = Int64.ofInt c) (k : K (some (tj c)) (sh, M, nx, zl)) : fm_Y (d + 2) 319 [.ref 168, .int (Int32.ofInt p), .int (Int32.ofInt m)] (sh, M, nx, zl) K := by
  refine m319 [fx 168, ti p, ti m] ?_
  exact num_Y (a := 211) (n := 131072) rfl (by omega) h0 hp hm hc k
theorem t2_Y {p : Int} (hp : 0 ≤ p ∧ p + 2 ≤ 131072) (k : 0 ≤ le (M 211) p 2 ∧ le (M 211) p 2 < 65536 → K (some (tj (le (M 211) p 2))) (sh, M, nx, zl)) : fm_Y (d + 2) 319 [.ref 168, .int (Int32.ofInt p), .int (Int32.ofInt 2)] (sh, M, nx, zl) K := told_Y (m := 2) hp.1 hp.2 (by omega) rfl (k ⟨le_nn _ _ _, le_lt2 _ _⟩)
theorem t4_Y {p : Int} (hp : 0 ≤ p ∧ p + 4 ≤ 131072) (k : 0 ≤ le (M 211) p 4 ∧ le (M 211) p 4 < 4294967296 → K (some (tj (le (M 211) p 4))) (sh, M, nx, zl)) : fm_Y (d + 2) 319 [.ref 168, .int (Int32.ofInt p), .int (Int32.ofInt 4)] (sh, M, nx, zl) K := told_Y (m := 4) hp.1 hp.2 (by omega) rfl (k ⟨le_nn _ _ _, le_lt4 _ _⟩)
theorem t8_Y {p : Int} (hp : 0 ≤ p ∧ p + 8 ≤ 131072) (k : (-9223372036854775808 ≤ s64 (le (M 211) p 8) ∧ s64 (le (M 211) p 8) ≤ 9223372036854775807) → K (some (tj (s64 (le (M 211) p 8)))) (sh, M, nx, zl)) : fm_Y (d + 2) 319 [.ref 168, .int (Int32.ofInt p), .int (Int32.ofInt 8)] (sh, M, nx, zl) K := told_Y (m := 8) hp.1 hp.2 (by omega) (s64_of _) (k (s64_r _))
theorem msuper_Y (hs : 0 ≤ M 168 59 ∧ M 168 59 ≤ 131072) (k0 : ¬ suP (M 211) (M 168 59) → K (some (ti 0)) (sh, M, nx, zl)) (k1 : suP (M 211) (M 168 59) → ∀ M2 : FM, (∀ c : Nat, c ≠ 168 → M2 c = M c) → (∀ i : Int, (i < 92 ∨ 102 < i) → M2 168 i = M 168 i) → suM (M 211) M2 → K (some (ti 1)) (sh, M2, nx, zl)) : fm_Y (d + 3) 318 [.ref 168] (sh, M, nx, zl) K := by
  obtain ⟨f, hf⟩ : ∃ f : Int → Int, f = M 211 := ⟨_, rfl⟩
  have e28 := le_42 (M 211) 28
  refine m318 [fx 168] ?_
  refine ⟨by omega, fun w => ?_, fun w => ⟨Or.inl rfl, k0 (fun z => by have := z.1; omega)⟩⟩
  refine t2_Y (by omega) (fun l22 => ?_)
  obtain ⟨P1, gP1⟩ : ∃ P1 : Prop, P1 = (le (M 211) 0 4 = 1936814952 ∧ le (M 211) 20 2 = 1 ∧ le (M 211) 28 4 = 4 ∧ s64 (le (M 211) 56 8) = -1) := ⟨_, rfl⟩
  obtain ⟨P2, gP2⟩ : ∃ P2 : Prop, P2 = (12 ≤ le (M 211) 22 2 ∧ le (M 211) 22 2 ≤ 16 ∧ le (M 211) 12 4 = 2 ^ (le (M 211) 22 2).toNat) := ⟨_, rfl⟩
  obtain ⟨P3, gP3⟩ : ∃ P3 : Prop, P3 = ((1 ≤ le (M 211) 4 4 ∧ le (M 211) 4 4 ≤ 4096) ∧ le (M 211) 16 4 ≤ 4096 ∧ (1 ≤ le (M 211) 26 2 ∧ le (M 211) 26 2 ≤ 4096)) := ⟨_, rfl⟩
  obtain ⟨P4, gP4⟩ : ∃ P4 : Prop, P4 = (96 ≤ s64 (le (M 211) 64 8) ∧ s64 (le (M 211) 64 8) ≤ s64 (le (M 211) 72 8) ∧ s64 (le (M 211) 72 8) ≤ s64 (le (M 211) 40 8) ∧ s64 (le (M 211) 40 8) ≤ M 168 59) := ⟨_, rfl⟩
  have SP : suP (M 211) (M 168 59) ↔ (P1 ∧ le (M 211) 24 2 / 1024 % 2 = 0) ∧ P2 ∧ P3 ∧ (le (M 211) 16 4 = 0 ↔ s64 (le (M 211) 80 8) = -1) ∧ P4 := by
    rw [gP1, gP2, gP3, gP4]
    unfold suP
    constructor
    · rintro ⟨-, ⟨a1, a2, a3, a4, a5⟩, b, c, e, g⟩
      exact ⟨⟨⟨a1, a2, a3, a4⟩, a5⟩, b, c, e, g⟩
    · rintro ⟨⟨⟨a1, a2, a3, a4⟩, a5⟩, b, c, e, g⟩
      exact ⟨by omega, ⟨a1, a2, a3, a4, a5⟩, b, c, e, g⟩
  have NO : ∀ Q : Prop, (suP (M 211) (M 168 59) → Q) → ¬ Q → K (some (ti 0)) (sh, M, nx, zl) := fun Q h1 h2 => k0 (fun z => h2 (h1 z))
  -- the last part: all four marks
  have C277 : ∀ v3 v4 v5 v6 : Int, (v3 = 0 ∨ v3 = 1) → (v3 = 1 ↔ P1) → (v4 = 0 ∨ v4 = 1) → (v4 = 1 ↔ P2) → (v5 = 0 ∨ v5 = 1) → (v5 = 1 ↔ P3) → (v6 = 0 ∨ v6 = 1) → (v6 = 1 ↔ P4) → b318_277 (d + 2) (fW (d + 2) kd318 K) K [some (fx 168), some (tj (le (M 211) 22 2)), none, some (ti v3), some (ti v4), some (ti v5), none] [ti v6] (sh, M, nx, zl) := by
    intro v3 v4 v5 v6 h3 q3 h4 q4 h5 q5 h6 q6
    refine ⟨by omega, fun w1 => ⟨Or.inl rfl, NO P1 (fun z => (SP.1 z).1.1) (fun z => by have := q3.2 z; omega)⟩, fun w1 => ?_⟩
    refine ⟨by omega, fun w2 => ⟨Or.inl rfl, NO P2 (fun z => (SP.1 z).2.1) (fun z => by have := q4.2 z; omega)⟩, fun w2 => ?_⟩
    refine ⟨by omega, fun w3 => ⟨Or.inl rfl, NO P3 (fun z => (SP.1 z).2.2.1) (fun z => by have := q5.2 z; omega)⟩, fun w3 => ?_⟩
    refine ⟨by omega, fun w4 => ⟨Or.inl rfl, NO P4 (fun z => (SP.1 z).2.2.2.2) (fun z => by have := q6.2 z; omega)⟩, fun w4 => ?_⟩
    have p1 : P1 := q3.1 (by omega)
    have p2 : P2 := q4.1 (by omega)
    have p3 : P3 := q5.1 (by omega)
    have p4 : P4 := q6.1 (by omega)
    refine t2_Y (by omega) (fun l24 => ?_)
    refine ⟨_, land_1024 _, ?_⟩
    refine ⟨by omega, fun w5 => ⟨Or.inl rfl, NO _ (fun z => (SP.1 z).1.2) (fun z => by omega)⟩, fun w5 => ?_⟩
    have C351 : ∀ z y : Int, (z = 0 ∨ z = 1) → (z = 1 ↔ s64 (le (M 211) 80 8) = -1) → (y = 0 ∨ y = 1) → (y = 1 ↔ le (M 211) 16 4 = 0) → b318_351 (d + 2) (fW (d + 2) kd318 K) K [some (fx 168), some (tj (le (M 211) 22 2)), none, some (ti v3), some (ti v4), some (ti v5), some (ti v6)] [ti y, ti z] (sh, M, nx, zl) := by
      intro z y hz ez hy ey
      refine ⟨by omega, fun w6 => ?_, fun w6 => ⟨Or.inl rfl, NO _ (fun q => (SP.1 q).2.2.2.1) (fun q => ?_)⟩⟩
      · have eqv : (le (M 211) 16 4 = 0 ↔ s64 (le (M 211) 80 8) = -1) := by rw [← ez, ← ey, w6]
        have SU := SP.2 ⟨⟨p1, by omega⟩, p2, p3, eqv, p4⟩
        have hSU := SU
        obtain ⟨u0, u1, u2, u3, u4, u5⟩ := SU
        have hp16 := p2_mono (le (M 211) 22 2).toNat 16 (by omega)
        have hp0 := two_pos (le (M 211) 22 2).toNat
        have e16 : (2 : Int) ^ 16 = 65536 := by decide
        have l16 := le_nn (M 211) 4 16
        obtain ⟨R, gR⟩ : ∃ R : FM, R = pg (pg (pg (pg (pg (pg (pg (pg (pg (pg (pg M 92 (le (M 211) 4 4)) 93 (le (M 211) 12 4)) 94 (le (M 211) 16 4)) 95 (le (M 211) 26 2)) 96 (s64 (le (M 211) 32 8))) 97 (s64 (le (M 211) 40 8))) 102 (s64 (le (M 211) 48 8))) 98 (s64 (le (M 211) 64 8))) 99 (s64 (le (M 211) 72 8))) 100 (s64 (le (M 211) 80 8))) 101 (s64 (le (M 211) 88 8)) := ⟨_, rfl⟩
        have KR : K (some (ti 1)) (sh, R, nx, zl) := by
          refine k1 hSU R (fun c hc => ?_) (fun i hi => ?_) ⟨⟨?_, ?_, ?_, ?_⟩, ⟨?_, ?_, ?_, ?_⟩, ?_, ?_, ?_⟩
          · rw [gR]
            simp only [pg_o _ _ _ hc]
          · rw [gR]
            rw [pg_ne _ _ _ (by omega), pg_ne _ _ _ (by omega), pg_ne _ _ _ (by omega), pg_ne _ _ _ (by omega), pg_ne _ _ _ (by omega), pg_ne _ _ _ (by omega), pg_ne _ _ _ (by omega), pg_ne _ _ _ (by omega), pg_ne _ _ _ (by omega), pg_ne _ _ _ (by omega), pg_ne _ _ _ (by omega)]
          · rw [gR, pg_ne _ _ _ (by omega), pg_ne _ _ _ (by omega), pg_ne _ _ _ (by omega), pg_ne _ _ _ (by omega), pg_ne _ _ _ (by omega), pg_ne _ _ _ (by omega), pg_ne _ _ _ (by omega), pg_ne _ _ _ (by omega), pg_ne _ _ _ (by omega), pg_ne _ _ _ (by omega), pg_at]
          · rw [gR, pg_ne _ _ _ (by omega), pg_ne _ _ _ (by omega), pg_ne _ _ _ (by omega), pg_ne _ _ _ (by omega), pg_ne _ _ _ (by omega), pg_ne _ _ _ (by omega), pg_ne _ _ _ (by omega), pg_ne _ _ _ (by omega), pg_ne _ _ _ (by omega), pg_at]
          · rw [gR, pg_ne _ _ _ (by omega), pg_ne _ _ _ (by omega), pg_ne _ _ _ (by omega), pg_ne _ _ _ (by omega), pg_ne _ _ _ (by omega), pg_ne _ _ _ (by omega), pg_ne _ _ _ (by omega), pg_ne _ _ _ (by omega), pg_at]
          · rw [gR, pg_ne _ _ _ (by omega), pg_ne _ _ _ (by omega), pg_ne _ _ _ (by omega), pg_ne _ _ _ (by omega), pg_ne _ _ _ (by omega), pg_ne _ _ _ (by omega), pg_ne _ _ _ (by omega), pg_at]
          · rw [gR, pg_ne _ _ _ (by omega), pg_ne _ _ _ (by omega), pg_ne _ _ _ (by omega), pg_ne _ _ _ (by omega), pg_ne _ _ _ (by omega), pg_ne _ _ _ (by omega), pg_at]
          · rw [gR, pg_ne _ _ _ (by omega), pg_ne _ _ _ (by omega), pg_ne _ _ _ (by omega), pg_ne _ _ _ (by omega), pg_ne _ _ _ (by omega), pg_at]
          · rw [gR, pg_ne _ _ _ (by omega), pg_ne _ _ _ (by omega), pg_ne _ _ _ (by omega), pg_at]
          · rw [gR, pg_ne _ _ _ (by omega), pg_ne _ _ _ (by omega), pg_at]
          · rw [gR, pg_ne _ _ _ (by omega), pg_at]
          · rw [gR, pg_at]
          · rw [gR, pg_ne _ _ _ (by omega), pg_ne _ _ _ (by omega), pg_ne _ _ _ (by omega), pg_ne _ _ _ (by omega), pg_at]
        refine t4_Y (by omega) (fun _ => ?_)
        refine t4_Y (by omega) (fun _ => ?_)
        refine t4_Y (by omega) (fun _ => ?_)
        refine t2_Y (by omega) (fun _ => ?_)
        refine t8_Y (by omega) (fun _ => ?_)
        refine t8_Y (by omega) (fun _ => ?_)
        refine t8_Y (by omega) (fun _ => ?_)
        refine t8_Y (by omega) (fun _ => ?_)
        refine t8_Y (by omega) (fun _ => ?_)
        refine t8_Y (by omega) (fun _ => ?_)
        refine t8_Y (by omega) (fun _ => ?_)
        refine ⟨Or.inr rfl, ?_⟩
        rw [gR] at KR
        exact KR
      · apply w6
        by_cases c1 : le (M 211) 16 4 = 0
        · have c2 := ey.2 c1
          have c3 := ez.2 (q.1 c1)
          omega
        · have c2 : ¬ y = 1 := fun e => c1 (ey.1 e)
          have c3 : ¬ z = 1 := fun e => c1 (q.2 (ez.1 e))
          omega
    have C334 : ∀ z : Int, (z = 0 ∨ z = 1) → (z = 1 ↔ s64 (le (M 211) 80 8) = -1) → b318_334 (d + 2) (fW (d + 2) kd318 K) K [some (fx 168), some (tj (le (M 211) 22 2)), none, some (ti v3), some (ti v4), some (ti v5), some (ti v6)] [ti z] (sh, M, nx, zl) := by
      intro z hz ez
      refine t4_Y (by omega) (fun l16 => ?_)
      refine ⟨by omega, fun w6 => C351 z 0 hz ez (by omega) ⟨fun q => by omega, fun q => absurd q w6⟩, fun w6 => C351 z 1 hz ez (by omega) ⟨fun _ => w6, fun _ => rfl⟩⟩
    refine t8_Y (by omega) (fun l80 => ?_)
    refine ⟨by omega, fun w6 => C334 0 (by omega) ⟨fun q => by omega, fun q => absurd q w6⟩, fun w6 => C334 1 (by omega) ⟨fun _ => w6, fun _ => rfl⟩⟩
  have C198 : ∀ v3 v4 v5 : Int, (v3 = 0 ∨ v3 = 1) → (v3 = 1 ↔ P1) → (v4 = 0 ∨ v4 = 1) → (v4 = 1 ↔ P2) → (v5 = 0 ∨ v5 = 1) → (v5 = 1 ↔ P3) → b318_198 (d + 2) (fW (d + 2) kd318 K) K [some (fx 168), some (tj (le (M 211) 22 2)), none, some (ti v3), some (ti v4), none, none] [ti v5] (sh, M, nx, zl) := by
    intro v3 v4 v5 h3 q3 h4 q4 h5 q5
    have Z : ¬ P4 → b318_276 (d + 2) (fW (d + 2) kd318 K) K [some (fx 168), some (tj (le (M 211) 22 2)), none, some (ti v3), some (ti v4), some (ti v5), none] [] (sh, M, nx, zl) := fun h => C277 v3 v4 v5 0 h3 q3 h4 q4 h5 q5 (by omega) ⟨fun q => by omega, fun q => absurd q h⟩
    refine t8_Y (by omega) (fun l40 => ?_)
    refine ⟨by omega, ?_⟩
    refine ⟨by omega, fun w1 => Z (by rw [gP4]; omega), fun w1 => ?_⟩
    refine t8_Y (by omega) (fun l64 => ?_)
    refine ⟨by omega, fun w2 => Z (by rw [gP4]; omega), fun w2 => ?_⟩
    refine t8_Y (by omega) (fun l72 => ?_)
    refine t8_Y (by omega) (fun l64b => ?_)
    refine ⟨by omega, fun w3 => Z (by rw [gP4]; omega), fun w3 => ?_⟩
    refine t8_Y (by omega) (fun l40b => ?_)
    refine t8_Y (by omega) (fun l72b => ?_)
    refine ⟨by omega, fun w4 => Z (by rw [gP4]; omega), fun w4 => ?_⟩
    exact C277 v3 v4 v5 1 h3 q3 h4 q4 h5 q5 (by omega) ⟨fun _ => by rw [gP4]; omega, fun _ => rfl⟩
  have C127 : ∀ v3 v4 : Int, (v3 = 0 ∨ v3 = 1) → (v3 = 1 ↔ P1) → (v4 = 0 ∨ v4 = 1) → (v4 = 1 ↔ P2) → b318_127 (d + 2) (fW (d + 2) kd318 K) K [some (fx 168), some (tj (le (M 211) 22 2)), none, some (ti v3), none, none, none] [ti v4] (sh, M, nx, zl) := by
    intro v3 v4 h3 q3 h4 q4
    have Z : ¬ P3 → b318_197 (d + 2) (fW (d + 2) kd318 K) K [some (fx 168), some (tj (le (M 211) 22 2)), none, some (ti v3), some (ti v4), none, none] [] (sh, M, nx, zl) := fun h => C198 v3 v4 0 h3 q3 h4 q4 (by omega) ⟨fun q => by omega, fun q => absurd q h⟩
    refine t4_Y (by omega) (fun l4 => ?_)
    refine ⟨by omega, fun w1 => Z (by rw [gP3]; omega), fun w1 => ?_⟩
    refine t4_Y (by omega) (fun l4b => ?_)
    refine ⟨by omega, fun w2 => Z (by rw [gP3]; omega), fun w2 => ?_⟩
    refine t2_Y (by omega) (fun l26 => ?_)
    refine ⟨by omega, fun w3 => Z (by rw [gP3]; omega), fun w3 => ?_⟩
    refine t2_Y (by omega) (fun l26b => ?_)
    refine ⟨by omega, fun w4 => Z (by rw [gP3]; omega), fun w4 => ?_⟩
    refine t4_Y (by omega) (fun l16 => ?_)
    refine ⟨by omega, fun w5 => Z (by rw [gP3]; omega), fun w5 => ?_⟩
    exact C198 v3 v4 1 h3 q3 h4 q4 (by omega) ⟨fun _ => by rw [gP3]; omega, fun _ => rfl⟩
  have C90 : ∀ v3 : Int, (v3 = 0 ∨ v3 = 1) → (v3 = 1 ↔ P1) → b318_90 (d + 2) (fW (d + 2) kd318 K) K [some (fx 168), some (tj (le (M 211) 22 2)), none, none, none, none, none] [ti v3] (sh, M, nx, zl) := by
    intro v3 h3 q3
    have Z : ¬ P2 → b318_126 (d + 2) (fW (d + 2) kd318 K) K [some (fx 168), some (tj (le (M 211) 22 2)), none, some (ti v3), none, none, none] [] (sh, M, nx, zl) := fun h => C127 v3 0 h3 q3 (by omega) ⟨fun q => by omega, fun q => absurd q h⟩
    refine ⟨by omega, fun w1 => Z (by rw [gP2]; omega), fun w1 => ?_⟩
    refine ⟨by omega, fun w2 => Z (by rw [gP2]; omega), fun w2 => ?_⟩
    refine t4_Y (by omega) (fun l12 => ?_)
    have hp16 := p2_mono (le (M 211) 22 2).toNat 16 (by omega)
    have hp0 := two_pos (le (M 211) 22 2).toNat
    have e16 : (2 : Int) ^ 16 = 65536 := by decide
    have e1 : (1 : Int) * 2 ^ (le (M 211) 22 2).toNat = 2 ^ (le (M 211) 22 2).toNat := Int.one_mul _
    refine ⟨by omega, ?_⟩
    rw [e1]
    refine ⟨by omega, fun w3 => Z (by rw [gP2]; omega), fun w3 => ?_⟩
    exact C127 v3 1 h3 q3 (by omega) ⟨fun _ => by rw [gP2]; omega, fun _ => rfl⟩
  have Z : ¬ P1 → b318_89 (d + 2) (fW (d + 2) kd318 K) K [some (fx 168), some (tj (le (M 211) 22 2)), none, none, none, none, none] [] (sh, M, nx, zl) := fun h => C90 0 (by omega) ⟨fun q => by omega, fun q => absurd q h⟩
  have e30 : (28 : Int) + 2 = 30 := rfl
  rw [e30] at e28
  refine t4_Y (by omega) (fun l0 => ?_)
  refine ⟨by omega, fun w1 => Z (by rw [gP1]; omega), fun w1 => ?_⟩
  refine t2_Y (by omega) (fun l20 => ?_)
  refine ⟨by omega, fun w2 => Z (by rw [gP1]; omega), fun w2 => ?_⟩
  refine t2_Y (by omega) (fun l28 => ?_)
  have l30 := le_nn (M 211) 2 30
  refine ⟨by omega, fun w3 => Z (by rw [gP1]; omega), fun w3 => ?_⟩
  refine t2_Y (by omega) (fun l30b => ?_)
  refine ⟨by omega, fun w4 => Z (by rw [gP1]; omega), fun w4 => ?_⟩
  refine t8_Y (by omega) (fun l56 => ?_)
  refine ⟨by omega, fun w5 => Z (by rw [gP1]; omega), fun w5 => ?_⟩
  exact C90 1 (by omega) ⟨fun _ => by rw [gP1]; omega, fun _ => rfl⟩
end MSUPER
