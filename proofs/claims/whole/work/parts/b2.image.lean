/-! THE IMAGE; calls of both: astray, image, imageWord, patch, keep -/
def imgR (M : FM) : Prop := (0 ≤ M 98 1 ∧ M 98 1 ≤ 131072) ∧ M 98 1 = M 168 59 ∧ sl (M 99) 0 (M 168 59).toNat = sl (M 211) 0 (M 168 59).toNat
/-- what holds of image, astray and mounting; C: of cells that never change; W: of what is mounted -/
def VV (C W : FM → Prop) (M : FM) : Prop := imgR M ∧ M 3 7 = M 168 90 ∧ M 3 6 % 2 = M 168 91 % 2 ∧ (M 3 6 % 2 ≠ 0 → W M) ∧ C M
def keepsC (C : FM → Prop) : Prop := ∀ M M2 : FM, C M → (∀ c : Nat, (c = 1 ∨ c = 2 ∨ c = 114 ∨ 151 ≤ c ∧ c ≤ 164 ∨ 50 ≤ c ∧ c ≤ 63 ∨ c = 219 ∨ c = 220 ∨ c = 228 ∨ c = 232) → M2 c = M c) → C M2
section IMAGE
variable {C W : FM → Prop} {L d : Nat} {xs : Nat → Int32}
theorem VV_keeps (hC : keepsC C) (hW : keepsV W) : keepsV (VV C W) := by
  intro M M2 ⟨⟨h1, h2, h3⟩, h4, h5, h6, h7⟩ hs
  have hs0 := hs
  obtain ⟨s1, s2, s3, s4⟩ := hs
  have e98 := s1 98 (by omega)
  have e99 := s1 99 (by omega)
  have e211 := s1 211 (by omega)
  have e59 := s2 59 (by omega)
  have e90 := s2 90 (by omega)
  have e91 := s2 91 (by omega)
  refine ⟨⟨?_, ?_, ?_⟩, ?_, ?_, fun z => ?_, hC M M2 h7 (fun c hc => s1 c (by omega))⟩
  · rw [e98]
    exact h1
  · rw [e98, e59]
    exact h2
  · rw [e99, e211, e59]
    exact h3
  · rw [s4, e90]
    exact h4
  · rw [s3, e91]
    exact h5
  · rw [s3] at z
    exact hW M M2 (h6 z) hs0
/-- the relation again, when tape, out and tree are as they were -/
theorem RR_V {V : FM → Prop} {k nx zl : Nat} {sh : Nat → Option Shp} {M M2 : FM} (hR : RR V L xs k (sh, M, nx, zl)) (h1 : ∀ c : Nat, (c = 0 ∨ 4 ≤ c ∧ c ≤ 14 ∨ c = 17 ∨ 169 ≤ c ∧ c ≤ 187 ∨ 265 ≤ c) → M2 c = M c) (h2 : ∀ i : Int, i ≤ 26 → M2 168 i = M 168 i) (h3 : M2 3 5 = M 3 5) (hv : V M2) : RR V L xs (k + 1) (sh, M2, nx, zl) := by
  obtain ⟨hBase, ht, ho, hT, -⟩ := hR
  refine ⟨baseR_up hBase (h1 0 (by omega)), ?_, ?_, ?_, hv⟩
  · show tapeR M2
    unfold tapeR
    rw [h2 1 (by omega), h2 2 (by omega), h1 169 (by omega), h3, h1 4 (by omega), h1 5 (by omega)]
    exact ht
  · show outR M2
    unfold outR
    rw [h2 4 (by omega), h1 170 (by omega), h1 6 (by omega), h1 7 (by omega)]
    exact ho
  · exact treeR_same hT (fun c hc => h1 c (by omega)) (fun i _ hi => h2 i hi)
theorem RR_next {V : FM → Prop} {k nx zl : Nat} {sh : Nat → Option Shp} {M : FM} (hR : RR V L xs k (sh, M, nx, zl)) : RR V L xs (k + 1) (sh, M, nx, zl) := RR_V hR (fun _ _ => rfl) (fun _ _ => rfl) rfl hR.2.2.2.2
theorem rowS_98 (sh : Nat → Option Shp) : rowS sh 98 99 131072 := ⟨⟨rfl, rfl⟩, by decide, by decide, by decide, by decide⟩
theorem call_astray : ca_I (VV C W) L xs (d + 2) 217 382 [] := by
  intro k H hR
  obtain ⟨sh, M, nx, zl⟩ := H
  have e : M 3 7 = M 168 90 := hR.2.2.2.2.2.1
  refine m217 [fx 3] ?_
  refine ⟨M 3 7, rfl, ⟨rfl, rfl⟩, ?_⟩
  refine m382 [fx 168] ?_
  exact ⟨by rw [e], RR_next hR⟩
theorem call_image : ca_I (VV C W) L xs (d + 2) 218 383 [] := by
  intro k H hR
  obtain ⟨sh, M, nx, zl⟩ := H
  have e : M 98 1 = M 168 59 := hR.2.2.2.2.1.2.1
  refine m218 [fx 3] ?_
  refine ⟨M 98 1, rfl, ⟨rfl, rfl⟩, ?_⟩
  refine m383 [fx 168] ?_
  exact ⟨by rw [e], RR_next hR⟩
theorem call_imageWord {i : Int} (hi : -2147483648 ≤ i ∧ i ≤ 2147483647) : ca_J (VV C W) L xs (d + 2) 219 384 [.int (Int32.ofInt i)] := by
  intro k H hR
  obtain ⟨sh, M, nx, zl⟩ := H
  obtain ⟨⟨g1, g2⟩, g3, g4⟩ : imgR M := hR.2.2.2.2.1
  refine m219 [fx 3, ti i] ?_
  refine word_Y (rowS_98 sh) hi g1 (by omega) (by omega) ?_
  refine ⟨wd8 (M 99) (M 98 1) i, rfl, ⟨rfl, rfl⟩, ?_⟩
  refine m384 [fx 168, ti i] ?_
  refine meight_Y (a := 211) (n := 131072) rfl hi (by omega) (by omega) (by omega) ?_
  refine ⟨?_, RR_next hR⟩
  rw [g3, wd8_congr g4]
theorem call_patch (hC : keepsC C) {i b : Int} (hi : -2147483648 ≤ i ∧ i ≤ 2147483647) (hb : -2147483648 ≤ b ∧ b ≤ 2147483647) : ca_I (VV C W) L xs (d + 2) 220 385 [.int (Int32.ofInt i), .int (Int32.ofInt b)] := by
  intro k H hR
  obtain ⟨sh, M, nx, zl⟩ := H
  have hR0 := hR
  obtain ⟨hBase, ht, ho, hT, hv⟩ := hR
  obtain ⟨⟨⟨g1, g2⟩, g3, g4⟩, g5, g6, g7, g8⟩ : VV C W M := hv
  have GB := sl_inj _ _ _ g4
  refine m220 [fx 3, ti i, ti b] ?_
  have BAD : ∀ H1 : FH, H1 = (sh, M, nx, zl) → (i < 0 ∨ M 98 1 ≤ i) → fm_Y (d + 2) 385 [.ref 168, .int (Int32.ofInt i), .int (Int32.ofInt b)] H1 (fun w2 H2 => w2 = some (ti (-1)) ∧ RR (VV C W) L xs (k + 1) H2) := by
    intro H1 e1 hbad
    rw [e1]
    refine m385 [fx 168, ti i, ti b] ?_
    refine ⟨by omega, fun w => ⟨rfl, RR_next hR0⟩, fun w => ?_⟩
    exact ⟨by omega, fun w2 => by omega, fun w2 => ⟨rfl, RR_next hR0⟩⟩
  refine ⟨by omega, fun w => ⟨-1, rfl, ⟨rfl, rfl⟩, BAD _ rfl (by omega)⟩, fun w => ?_⟩
  refine ⟨by omega, fun w2 => ?_, fun w2 => ⟨-1, rfl, ⟨rfl, rfl⟩, BAD _ rfl (by omega)⟩⟩
  refine ⟨by omega, ?_⟩
  refine ⟨by omega, ?_⟩
  refine ⟨Or.inl rfl, ?_⟩
  refine ⟨M 99 i % 256, rfl, ⟨rfl, rfl⟩, ?_⟩
  obtain ⟨R, gR⟩ : ∃ R : FM, R = um (um M 99 (ur (M 99) i ((b + 128) % 256 - 128))) 3 (ur (M 3) 6 0) := ⟨_, rfl⟩
  have TL : fm_Y (d + 2) 385 [.ref 168, .int (Int32.ofInt i), .int (Int32.ofInt b)] (sh, R, nx, zl) (fun w2 H2 => w2 = some (ti (M 99 i % 256)) ∧ RR (VV C W) L xs (k + 1) H2) := by
    have Ro : ∀ c : Nat, c ≠ 3 → c ≠ 99 → R c = M c := fun c c1 c2 => by rw [gR, um_ne c1, um_ne c2]
    have R3 : R 3 = ur (M 3) 6 0 := by rw [gR, um_at]
    have R99 : R 99 = ur (M 99) i ((b + 128) % 256 - 128) := by rw [gR, um_ne (by decide), um_at]
    have R168 := Ro 168 (by decide) (by decide)
    have e59 : R 168 59 = M 168 59 := by rw [R168]
    have e211 := Ro 211 (by decide) (by decide)
    refine m385 [fx 168, ti i, ti b] ?_
    refine ⟨by omega, fun w => by omega, fun w => ?_⟩
    refine ⟨by omega, fun w2 => ?_, fun w2 => by omega⟩
    refine ⟨by omega, ?_⟩
    refine ⟨by omega, ?_⟩
    refine ⟨Or.inl rfl, ?_⟩
    obtain ⟨R2, gR2⟩ : ∃ R2 : FM, R2 = um (um R 211 (ur (R 211) i ((b + 128) % 256 - 128))) 168 (ur (R 168) 91 0) := ⟨_, rfl⟩
    have Qo : ∀ c : Nat, c ≠ 168 → c ≠ 211 → R2 c = R c := fun c c1 c2 => by rw [gR2, um_ne c1, um_ne c2]
    have Q168 : R2 168 = ur (M 168) 91 0 := by rw [gR2, um_at, R168]
    have Q211 : R2 211 = ur (M 211) i ((b + 128) % 256 - 128) := by rw [gR2, um_ne (by decide), um_at, e211]
    have TL2 : (some (ti (R 211 i % 256)) : Option TV) = some (ti (M 99 i % 256)) ∧ RR (VV C W) L xs (k + 1) (sh, R2, nx, zl) := by
      refine ⟨?_, RR_V hR0 (fun c hc => ?_) (fun j hj => ?_) ?_ ⟨⟨?_, ?_, ?_⟩, ?_, ?_, fun z => ?_, hC M R2 g8 (fun c hc => by rw [Qo c (by omega) (by omega), Ro c (by omega) (by omega)])⟩⟩
      · have z := GB i.toNat (by omega)
        rw [show (0 : Int) + ((i.toNat : Nat) : Int) = i by omega] at z
        rw [e211, z]
      · rw [Qo c (by omega) (by omega), Ro c (by omega) (by omega)]
      · rw [Q168, ur_ne (by omega)]
      · rw [Qo 3 (by omega) (by omega), R3, ur_ne (by omega)]
      · rw [Qo 98 (by omega) (by omega), Ro 98 (by omega) (by omega)]
        exact ⟨g1, g2⟩
      · rw [Qo 98 (by omega) (by omega), Ro 98 (by omega) (by omega), Q168, ur_ne (by omega)]
        exact g3
      · rw [Qo 99 (by omega) (by omega), R99, Q211, Q168, ur_ne (show (59 : Int) ≠ 91 by omega)]
        refine sl_congr _ _ _ (fun j hj => ?_)
        by_cases e : (0 : Int) + (j : Int) = i
        · rw [e, ur_at, ur_at]
        · rw [ur_ne e, ur_ne e]
          exact GB j hj
      · rw [Qo 3 (by omega) (by omega), R3, ur_ne (by omega), Q168, ur_ne (by omega)]
        exact g5
      · rw [Qo 3 (by omega) (by omega), R3, ur_at, Q168, ur_at]
      · rw [Qo 3 (by omega) (by omega), R3, ur_at] at z
        exact absurd rfl z
    rw [gR2] at TL2
    exact TL2
  rw [gR] at TL
  exact TL
end IMAGE
