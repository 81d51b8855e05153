/-! MOUNTING: the first part of an image; the class -/
theorem bv_splitW {w : Nat} (b c : BitVec w) : (b &&& ~~~c) + (b &&& c) = b := by
  rw [BitVec.add_eq_or_of_and_eq_zero]
  · ext i hi
    simp only [BitVec.getElem_or, BitVec.getElem_and, BitVec.getElem_not]
    cases b[i] <;> cases c[i] <;> rfl
  · ext i hi
    simp only [BitVec.getElem_and, BitVec.getElem_not, BitVec.getElem_zero]
    cases b[i] <;> cases c[i] <;> rfl
theorem bv_1024 {w : Nat} (hw : 11 ≤ w) (h3 : (BitVec.ofInt w 2047 : BitVec w) &&& ~~~(BitVec.ofInt w 1023) = BitVec.ofInt w 1024) (h4 : (BitVec.ofInt w 2047 : BitVec w) &&& BitVec.ofInt w 1023 = BitVec.ofInt w 1023) (y : Int) : BitVec.ofInt w y &&& BitVec.ofInt w 1024 = BitVec.ofInt w (y / 1024 % 2 * 1024) := by
  have h1 : BitVec.ofInt w y &&& BitVec.ofInt w 2047 = BitVec.ofInt w (y % 2048) := bv_mask (w := w) (k := 11) (by omega) y
  have h2 : BitVec.ofInt w y &&& BitVec.ofInt w 1023 = BitVec.ofInt w (y % 1024) := bv_mask (w := w) (k := 10) (by omega) y
  have h5 := bv_splitW (BitVec.ofInt w y &&& BitVec.ofInt w 2047) (BitVec.ofInt w 1023)
  rw [BitVec.and_assoc, BitVec.and_assoc, h3, h4, h2, h1] at h5
  have h6 : BitVec.ofInt w (y / 1024 % 2 * 1024) + BitVec.ofInt w (y % 1024) = BitVec.ofInt w (y % 2048) := by
    rw [← BitVec.ofInt_add, show y / 1024 % 2 * 1024 + y % 1024 = y % 2048 by omega]
  exact (BitVec.add_left_inj _).1 (h5.trans h6.symm)
theorem and_1024 (y : Int) : Int32.ofInt y &&& Int32.ofInt 1024 = Int32.ofInt (y / 1024 % 2 * 1024) := by
  apply Int32.toBitVec_inj.1
  exact bv_1024 (w := 32) (by omega) (by decide) (by decide) y
theorem land_1024 (y : Int) : Int64.ofInt y &&& Int64.ofInt 1024 = Int64.ofInt (y / 1024 % 2 * 1024) := by
  apply Int64.toBitVec_inj.1
  exact bv_1024 (w := 64) (by omega) (by decide) (by decide) y
/-- the first part holds -/
def suP (f : Int → Int) (s : Int) : Prop := 96 ≤ s ∧ (le f 0 4 = 1936814952 ∧ le f 20 2 = 1 ∧ le f 28 4 = 4 ∧ s64 (le f 56 8) = -1 ∧ le f 24 2 / 1024 % 2 = 0) ∧ (12 ≤ le f 22 2 ∧ le f 22 2 ≤ 16 ∧ le f 12 4 = 2 ^ (le f 22 2).toNat) ∧ ((1 ≤ le f 4 4 ∧ le f 4 4 ≤ 4096) ∧ le f 16 4 ≤ 4096 ∧ (1 ≤ le f 26 2 ∧ le f 26 2 ≤ 4096)) ∧ (le f 16 4 = 0 ↔ s64 (le f 80 8) = -1) ∧ (96 ≤ s64 (le f 64 8) ∧ s64 (le f 64 8) ≤ s64 (le f 72 8) ∧ s64 (le f 72 8) ≤ s64 (le f 40 8) ∧ s64 (le f 40 8) ≤ s)
def suC (f : Int → Int) (M2 : FM) : Prop := M2 97 9 = 2 ^ (le f 22 2).toNat ∧ M2 97 10 = le f 4 4 ∧ M2 97 11 = le f 16 4 ∧ M2 97 12 = le f 26 2 ∧ (M2 97 13 % 2 = 0 ↔ s64 (le f 88 8) = -1) ∧ M2 97 14 = s64 (le f 40 8) ∧ M2 97 15 = s64 (le f 64 8) ∧ M2 97 16 = s64 (le f 72 8)
def ph (M : FM) (i x : Int) : FM := um M 97 (ur (M 97) i x)
theorem ph_o (M : FM) (i x : Int) {c : Nat} (h : c ≠ 97) : ph M i x c = M c := um_ne h
theorem ph_at (M : FM) (i x : Int) : ph M i x 97 i = x := by
  unfold ph
  rw [um_at, ur_at]
theorem ph_ne (M : FM) (i x : Int) {j : Int} (h : j ≠ i) : ph M i x 97 j = M 97 j := by
  unfold ph
  rw [um_at, ur_ne h]
section SUPER
variable {d nx zl : Nat} {K : Option TV → FH → Prop} {sh : Nat → Option Shp} {M : FM}
theorem i2_Y {p : Int} (hs : 96 ≤ M 98 1 ∧ M 98 1 ≤ 131072) (hp : 0 ≤ p ∧ p ≤ 94) (k : 0 ≤ le (M 99) p 2 ∧ le (M 99) p 2 < 65536 → K (some (ti (le (M 99) p 2))) (sh, M, nx, zl)) : fm_Y (d + 1) 129 [.ref 98, .int (Int32.ofInt p)] (sh, M, nx, zl) K := by
  refine two_Y (rowS_98 sh) (by omega) (by omega) (by omega) ?_
  have e : r2 (M 99) (M 98 1) p = le (M 99) p 2 := if_pos (by omega)
  rw [e]
  exact k ⟨le_nn _ _ _, le_lt2 _ _⟩
theorem i4_Y {p : Int} (hs : 96 ≤ M 98 1 ∧ M 98 1 ≤ 131072) (hp : 0 ≤ p ∧ p ≤ 92) (k : (0 ≤ le (M 99) p 4 ∧ le (M 99) p 4 < 4294967296) → (-2147483648 ≤ s32 (le (M 99) p 4) ∧ s32 (le (M 99) p 4) ≤ 2147483647) → ((s32 (le (M 99) p 4) = le (M 99) p 4 ∧ le (M 99) p 4 < 2147483648) ∨ (s32 (le (M 99) p 4) < 0 ∧ 2147483648 ≤ le (M 99) p 4)) → K (some (ti (s32 (le (M 99) p 4)))) (sh, M, nx, zl)) : fm_Y (d + 1) 61 [.ref 98, .int (Int32.ofInt p)] (sh, M, nx, zl) K := by
  refine four_Y (rowS_98 sh) (by omega) (by omega) (by omega) ?_
  have e : r4 (M 99) (M 98 1) p = s32 (le (M 99) p 4) := if_pos (by omega)
  rw [e]
  have h1 := le_nn (M 99) 4 p
  have h2 := le_lt4 (M 99) p
  exact k ⟨h1, h2⟩ (s32_r _) (by unfold s32; omega)
theorem i8_Y {p : Int} (hs : 96 ≤ M 98 1 ∧ M 98 1 ≤ 131072) (hp : 0 ≤ p ∧ p ≤ 88) (k : (-9223372036854775808 ≤ s64 (le (M 99) p 8) ∧ s64 (le (M 99) p 8) ≤ 9223372036854775807) → K (some (tj (s64 (le (M 99) p 8)))) (sh, M, nx, zl)) : fm_Y (d + 1) 130 [.ref 98, .int (Int32.ofInt p)] (sh, M, nx, zl) K := by
  refine eight_Y (rowS_98 sh) (by omega) (by omega) (by omega) ?_
  have e : r8 (M 99) (M 98 1) p = s64 (le (M 99) p 8) := if_pos (by omega)
  rw [e]
  exact k (s64_r _)
theorem super_Y (hs : 0 ≤ M 98 1 ∧ M 98 1 ≤ 131072) (k0 : ¬ suP (M 99) (M 98 1) → ∀ M2 : FM, (∀ c : Nat, c ≠ 97 → M2 c = M c) → K (some (ti 0)) (sh, M2, nx, zl)) (k1 : suP (M 99) (M 98 1) → ∀ M2 : FM, (∀ c : Nat, c ≠ 97 → M2 c = M c) → suC (M 99) M2 → K (some (ti 1)) (sh, M2, nx, zl)) : fm_Y (d + 2) 128 [.ref 97] (sh, M, nx, zl) K := by
  refine m128 [fx 97] ?_
  refine ⟨by omega, fun w => ?_, fun w => ⟨Or.inl rfl, k0 (fun z => by have := z.1; omega) M (fun _ _ => rfl)⟩⟩
  have hs9 : 96 ≤ M 98 1 ∧ M 98 1 ≤ 131072 := by omega
  refine i2_Y hs9 (by omega) (fun l22 => ?_)
  refine i4_Y hs9 (by omega) (fun a1 a2 a3 => ?_)
  refine ⟨by omega, fun v1 => ⟨Or.inl rfl, k0 (fun z => by have := z.2.1.1; omega) M (fun _ _ => rfl)⟩, fun v1 => ?_⟩
  refine i2_Y hs9 (by omega) (fun l20 => ?_)
  refine ⟨by omega, fun v2 => ⟨Or.inl rfl, k0 (fun z => v2 z.2.1.2.1) M (fun _ _ => rfl)⟩, fun v2 => ?_⟩
  refine i4_Y hs9 (by omega) (fun b1 b2 b3 => ?_)
  refine ⟨by omega, fun v3 => ⟨Or.inl rfl, k0 (fun z => by have := z.2.1.2.2.1; omega) M (fun _ _ => rfl)⟩, fun v3 => ?_⟩
  refine i8_Y hs9 (by omega) (fun c56 => ?_)
  refine ⟨by omega, fun v4 => ⟨Or.inl rfl, k0 (fun z => v4 z.2.1.2.2.2.1) M (fun _ _ => rfl)⟩, fun v4 => ?_⟩
  refine i2_Y hs9 (by omega) (fun l24 => ?_)
  refine ⟨_, and_1024 _, ?_⟩
  refine ⟨by omega, fun v5 => ⟨Or.inl rfl, k0 (fun z => by have := z.2.1.2.2.2.2; omega) M (fun _ _ => rfl)⟩, fun v5 => ?_⟩
  refine ⟨by omega, fun v6 => ⟨Or.inl rfl, k0 (fun z => by have := z.2.2.1.1; omega) M (fun _ _ => rfl)⟩, fun v6 => ?_⟩
  refine ⟨by omega, fun v7 => ⟨Or.inl rfl, k0 (fun z => by have := z.2.2.1.2.1; omega) M (fun _ _ => rfl)⟩, fun v7 => ?_⟩
  refine i4_Y hs9 (by omega) (fun d1 d2 d3 => ?_)
  refine ⟨by omega, ?_⟩
  have hp16 := p2_mono (le (M 99) 22 2).toNat 16 (by omega)
  have hp0 := two_pos (le (M 99) 22 2).toNat
  have e16 : (2 : Int) ^ 16 = 65536 := by decide
  have e1 : (1 : Int) * 2 ^ (le (M 99) 22 2).toNat = 2 ^ (le (M 99) 22 2).toNat := Int.one_mul _
  rw [e1]
  refine ⟨by omega, fun v8 => ?_, fun v8 => ⟨Or.inl rfl, k0 (fun z => by have := z.2.2.1.2.2; omega) M (fun _ _ => rfl)⟩⟩
  refine i4_Y hs9 (by omega) (fun g1 g2 g3 => ?_)
  -- the cells from here on
  obtain ⟨R1, gR1⟩ : ∃ R1 : FM, R1 = ph M 10 (s32 (le (M 99) 4 4)) := ⟨_, rfl⟩
  have o1 : ∀ c : Nat, c ≠ 97 → R1 c = M c := fun c hc => by rw [gR1]; exact ph_o _ _ _ hc
  have T1 : o_al 0 (o_al 0 (o_get 8 0 0 (o_ic 16 (o_callv (d + 1) 61 1 1 (o_put 8 11 11 (o_al 0 (o_al 0 (o_get 8 0 0 (o_ic 26 (o_callv (d + 1) 129 1 1 (o_put 8 12 12 (o_al 0 (o_get 8 10 10 (b128_166 (d + 1) (fW (d + 1) kd128 K) K)))))))))))))) [some (fx 97), some (ti (le (M 99) 22 2)), none, none, none, none, none, none] [] (sh, R1, nx, zl) := by
    refine i4_Y (by rw [o1 98 (by decide)]; exact hs9) (by omega) (fun h1 h2 h3 => ?_)
    rw [o1 99 (by decide)] at h1 h2 h3 ⊢
    obtain ⟨R2, gR2⟩ : ∃ R2 : FM, R2 = ph R1 11 (s32 (le (M 99) 16 4)) := ⟨_, rfl⟩
    have o2 : ∀ c : Nat, c ≠ 97 → R2 c = M c := fun c hc => by rw [gR2, ph_o _ _ _ hc]; exact o1 c hc
    have T2 : o_al 0 (o_al 0 (o_get 8 0 0 (o_ic 26 (o_callv (d + 1) 129 1 1 (o_put 8 12 12 (o_al 0 (o_get 8 10 10 (b128_166 (d + 1) (fW (d + 1) kd128 K) K)))))))) [some (fx 97), some (ti (le (M 99) 22 2)), none, none, none, none, none, none] [] (sh, R2, nx, zl) := by
      refine i2_Y (by rw [o2 98 (by decide)]; exact hs9) (by omega) (fun l26 => ?_)
      rw [o2 99 (by decide)] at l26 ⊢
      obtain ⟨R3, gR3⟩ : ∃ R3 : FM, R3 = ph R2 12 (le (M 99) 26 2) := ⟨_, rfl⟩
      have o3 : ∀ c : Nat, c ≠ 97 → R3 c = M c := fun c hc => by rw [gR3, ph_o _ _ _ hc]; exact o2 c hc
      have f10 : R3 97 10 = s32 (le (M 99) 4 4) := by rw [gR3, ph_ne _ _ _ (by omega), gR2, ph_ne _ _ _ (by omega), gR1, ph_at]
      have f11 : R3 97 11 = s32 (le (M 99) 16 4) := by rw [gR3, ph_ne _ _ _ (by omega), gR2, ph_at]
      have f12 : R3 97 12 = le (M 99) 26 2 := by rw [gR3, ph_at]
      have T3 : o_al 0 (o_get 8 10 10 (b128_166 (d + 1) (fW (d + 1) kd128 K) K)) [some (fx 97), some (ti (le (M 99) 22 2)), none, none, none, none, none, none] [] (sh, R3, nx, zl) := by
        have NO : ¬ suP (M 99) (M 98 1) → K (some (ti 0)) (sh, R3, nx, zl) := fun h => k0 h R3 o3
        refine ⟨by omega, fun w1 => ⟨Or.inl rfl, NO (fun z => by have := z.2.2.2.1.1; omega)⟩, fun w1 => ?_⟩
        refine ⟨by omega, fun w2 => ⟨Or.inl rfl, NO (fun z => by have := z.2.2.2.1.1; omega)⟩, fun w2 => ?_⟩
        refine ⟨by omega, fun w3 => ⟨Or.inl rfl, NO (fun z => by have := z.2.2.2.1.2.1; omega)⟩, fun w3 => ?_⟩
        refine ⟨by omega, fun w4 => ⟨Or.inl rfl, NO (fun z => by have := z.2.2.2.1.2.1; omega)⟩, fun w4 => ?_⟩
        refine ⟨by omega, fun w5 => ⟨Or.inl rfl, NO (fun z => by have := z.2.2.2.1.2.2; omega)⟩, fun w5 => ?_⟩
        refine ⟨by omega, fun w6 => ⟨Or.inl rfl, NO (fun z => by have := z.2.2.2.1.2.2; omega)⟩, fun w6 => ?_⟩
        have e10 : s32 (le (M 99) 4 4) = le (M 99) 4 4 := by omega
        have e11 : s32 (le (M 99) 16 4) = le (M 99) 16 4 := by omega
        have hs3 : 96 ≤ R3 98 1 ∧ R3 98 1 ≤ 131072 := by rw [o3 98 (by decide)]; exact hs9
        -- behind the two marks
        have B248 : ∀ z : Int, (z = 0 ∨ z = 1) → ∀ y : Int, (y = 0 ∨ y = 1) → (z = 1 ↔ le (M 99) 16 4 = 0) → (y = 1 ↔ s64 (le (M 99) 80 8) = -1) → b128_248 (d + 1) (fW (d + 1) kd128 K) K [some (fx 97), some (ti (le (M 99) 22 2)), none, none, none, none, none, none] [ti y, ti z] (sh, R3, nx, zl) := by
          intro z hz y hy ez ey
          refine ⟨by omega, fun w7 => ?_, fun w7 => ⟨Or.inl rfl, NO (fun q => ?_)⟩⟩
          · have eqv : (le (M 99) 16 4 = 0 ↔ s64 (le (M 99) 80 8) = -1) := by
              rw [← ez, ← ey, w7]
            refine i8_Y hs3 (by omega) (fun h64 => ?_)
            refine i8_Y hs3 (by omega) (fun h72 => ?_)
            refine i8_Y hs3 (by omega) (fun h40 => ?_)
            rw [o3 99 (by decide)] at h64 h72 h40 ⊢
            refine ⟨by omega, fun w8 => ⟨Or.inl rfl, NO (fun q => by have := q.2.2.2.2.2.1; omega)⟩, fun w8 => ?_⟩
            refine ⟨by omega, fun w9 => ⟨Or.inl rfl, NO (fun q => by have := q.2.2.2.2.2.2.1; omega)⟩, fun w9 => ?_⟩
            refine ⟨by omega, fun w10 => ⟨Or.inl rfl, NO (fun q => by have := q.2.2.2.2.2.2.2.1; omega)⟩, fun w10 => ?_⟩
            have e98 : R3 98 1 = M 98 1 := by rw [o3 98 (by decide)]
            refine ⟨by omega, ?_⟩
            refine ⟨by omega, fun w11 => ?_, fun w11 => ⟨Or.inl rfl, NO (fun q => by have := q.2.2.2.2.2.2.2.2; omega)⟩⟩
            have SU : suP (M 99) (M 98 1) := ⟨hs9.1, ⟨by omega, by omega, by omega, by omega, by omega⟩, ⟨by omega, by omega, by omega⟩, ⟨⟨by omega, by omega⟩, by omega, ⟨by omega, by omega⟩⟩, eqv, by omega, by omega, by omega, by omega⟩
            refine ⟨by omega, ?_⟩
            rw [e1]
            obtain ⟨R4, gR4⟩ : ∃ R4 : FM, R4 = ph R3 9 (2 ^ (le (M 99) 22 2).toNat) := ⟨_, rfl⟩
            have o4 : ∀ c : Nat, c ≠ 97 → R4 c = M c := fun c hc => by rw [gR4, ph_o _ _ _ hc]; exact o3 c hc
            have hs4 : 96 ≤ R4 98 1 ∧ R4 98 1 ≤ 131072 := by rw [o4 98 (by decide)]; exact hs9
            have END : ∀ x : Int, (x = 0 ∨ x = 1) → (x = 0 ↔ s64 (le (M 99) 88 8) = -1) → b128_353 (d + 1) (fW (d + 1) kd128 K) K [some (fx 97), some (ti (le (M 99) 22 2)), some (tj (s64 (le (M 99) 64 8))), none, some (tj (s64 (le (M 99) 72 8))), none, some (tj (s64 (le (M 99) 40 8))), none] [ti x, fx 97] (sh, R4, nx, zl) := by
              intro x hx ex
              refine ⟨hx, ?_⟩
              refine ⟨Or.inr rfl, ?_⟩
              obtain ⟨R, gR⟩ : ∃ R : FM, R = ph (ph (ph (ph R4 13 x) 14 (s64 (le (M 99) 40 8))) 15 (s64 (le (M 99) 64 8))) 16 (s64 (le (M 99) 72 8)) := ⟨_, rfl⟩
              have zz := k1 SU R (fun c hc => by rw [gR, ph_o _ _ _ hc, ph_o _ _ _ hc, ph_o _ _ _ hc, ph_o _ _ _ hc]; exact o4 c hc) ⟨?_, ?_, ?_, ?_, ?_, ?_, ?_, ?_⟩
              · rw [gR] at zz
                exact zz
              · rw [gR, ph_ne _ _ _ (by omega), ph_ne _ _ _ (by omega), ph_ne _ _ _ (by omega), ph_ne _ _ _ (by omega), gR4, ph_at]
              · rw [gR, ph_ne _ _ _ (by omega), ph_ne _ _ _ (by omega), ph_ne _ _ _ (by omega), ph_ne _ _ _ (by omega), gR4, ph_ne _ _ _ (by omega), f10, e10]
              · rw [gR, ph_ne _ _ _ (by omega), ph_ne _ _ _ (by omega), ph_ne _ _ _ (by omega), ph_ne _ _ _ (by omega), gR4, ph_ne _ _ _ (by omega), f11, e11]
              · rw [gR, ph_ne _ _ _ (by omega), ph_ne _ _ _ (by omega), ph_ne _ _ _ (by omega), ph_ne _ _ _ (by omega), gR4, ph_ne _ _ _ (by omega), f12]
              · rw [gR, ph_ne _ _ _ (by omega), ph_ne _ _ _ (by omega), ph_ne _ _ _ (by omega), ph_at, ← ex]
                omega
              · rw [gR, ph_ne _ _ _ (by omega), ph_ne _ _ _ (by omega), ph_at]
              · rw [gR, ph_ne _ _ _ (by omega), ph_at]
              · rw [gR, ph_at]
            have T4 : o_al 0 (o_al 0 (o_get 8 0 0 (o_ic 88 (o_callv (d + 1) 130 1 1 (o_lc (-1) (o_lcmp .eq (o_ic 0 (b128_353 (d + 1) (fW (d + 1) kd128 K) K)) (o_ic 1 (b128_353 (d + 1) (fW (d + 1) kd128 K) K)))))))) [some (fx 97), some (ti (le (M 99) 22 2)), some (tj (s64 (le (M 99) 64 8))), none, some (tj (s64 (le (M 99) 72 8))), none, some (tj (s64 (le (M 99) 40 8))), none] [] (sh, R4, nx, zl) := by
              refine i8_Y hs4 (by omega) (fun h88 => ?_)
              rw [o4 99 (by decide)] at h88 ⊢
              refine ⟨by omega, fun w12 => END 0 (by omega) ⟨fun _ => w12, fun _ => rfl⟩, fun w12 => END 1 (by omega) ⟨fun q => by omega, fun q => absurd q w12⟩⟩
            rw [gR4] at T4
            exact T4
          · have q5 := q.2.2.2.2.1
            apply w7
            by_cases c1 : le (M 99) 16 4 = 0
            · have c2 := ez.2 c1
              have c3 := ey.2 (q5.1 c1)
              omega
            · have c2 : ¬ z = 1 := fun e => c1 (ez.1 e)
              have c3 : ¬ y = 1 := fun e => c1 (q5.2 (ey.1 e))
              omega
        refine ⟨by omega, fun w7 => ?_, fun w7 => ?_⟩
        · refine i8_Y hs3 (by omega) (fun h80 => ?_)
          rw [o3 99 (by decide)] at h80 ⊢
          refine ⟨by omega, fun w8 => B248 0 (by omega) 0 (by omega) ⟨fun q => by omega, fun q => by omega⟩ ⟨fun q => by omega, fun q => absurd q w8⟩, fun w8 => B248 0 (by omega) 1 (by omega) ⟨fun q => by omega, fun q => by omega⟩ ⟨fun _ => w8, fun _ => rfl⟩⟩
        · refine i8_Y hs3 (by omega) (fun h80 => ?_)
          rw [o3 99 (by decide)] at h80 ⊢
          refine ⟨by omega, fun w8 => B248 1 (by omega) 0 (by omega) ⟨fun _ => by omega, fun _ => rfl⟩ ⟨fun q => by omega, fun q => absurd q w8⟩, fun w8 => B248 1 (by omega) 1 (by omega) ⟨fun _ => by omega, fun _ => rfl⟩ ⟨fun _ => w8, fun _ => rfl⟩⟩
      rw [gR3] at T3
      exact T3
    rw [gR2] at T2
    exact T2
  rw [gR1] at T1
  exact T1
end SUPER
