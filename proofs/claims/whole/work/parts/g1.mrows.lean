/-! MOUNTING: all rows; the reference's areRows -/
def raF (M M2 : FM) : Prop := (∀ c : Nat, c ≠ 168 → (c < 195 ∨ 210 < c) → (c < 238 ∨ 258 < c) → M2 c = M c) ∧ ∀ i : Int, (i < 50 ∨ 57 < i) → M2 168 i = M 168 i
theorem ra_trans {M M2 M3 : FM} (h : raF M M2) (h2 : raF M2 M3) : raF M M3 := ⟨fun c h3 h4 h5 => (h2.1 c h3 h4 h5).trans (h.1 c h3 h4 h5), fun i hi => (h2.2 i hi).trans (h.2 i hi)⟩
theorem rdF_ra {M M2 : FM} {r b st sz : Nat} (h : rdF M M2 r b st sz) (h1 : 238 ≤ r ∧ r ≤ 257) (h2 : 238 ≤ b ∧ b ≤ 257) (h3 : 238 ≤ st ∧ st ≤ 257) (h4 : 238 ≤ sz ∧ sz ≤ 257) : raF M M2 := ⟨fun c c1 c2 c3 => h.1 c c1 (by omega) (by omega) (by omega) (by omega) (by omega) c2, h.2⟩
def mwV (f : Int → Int) (M2 : FM) (IR IS LR LS FR FS XR XS DR DS : List Int) : Prop := (rrV M2 238 241 239 240 IR IS ∧ rrV M2 242 245 243 244 LR LS) ∧ (0 < le f 16 4 → rrV M2 246 249 247 248 FR FS) ∧ (plX f ≠ -1 → rrV M2 250 253 251 252 XR XS) ∧ rrV M2 254 257 255 256 DR DS
theorem rrV_rd {M M2 : FM} {r b st sz r2 b2 st2 sz2 : Nat} {R S : List Int} (h : rrV M r b st sz R S) (h2 : rdF M M2 r2 b2 st2 sz2) (b1 : 238 ≤ r ∧ r < 258 ∧ 238 ≤ b ∧ b < 258 ∧ 238 ≤ st ∧ st < 258 ∧ 238 ≤ sz ∧ sz < 258) (n1 : r ≠ r2 ∧ r ≠ b2 ∧ r ≠ st2 ∧ r ≠ sz2) (n2 : b ≠ r2 ∧ b ≠ b2 ∧ b ≠ st2 ∧ b ≠ sz2) (n3 : st ≠ r2 ∧ st ≠ b2 ∧ st ≠ st2 ∧ st ≠ sz2) (n4 : sz ≠ r2 ∧ sz ≠ b2 ∧ sz ≠ st2 ∧ sz ≠ sz2) : rrV M2 r b st sz R S := by
  unfold rrV
  rw [h2.1 r (by omega) n1.1 n1.2.1 n1.2.2.1 n1.2.2.2 (by omega) (by omega), h2.1 b (by omega) n2.1 n2.2.1 n2.2.2.1 n2.2.2.2 (by omega) (by omega), h2.1 st (by omega) n3.1 n3.2.1 n3.2.2.1 n3.2.2.2 (by omega) (by omega), h2.1 sz (by omega) n4.1 n4.2.1 n4.2.2.1 n4.2.2.2 (by omega) (by omega)]
  exact h
theorem rr238 (sh : Nat → Option Shp) : rrS sh 238 241 239 240 65536 := ⟨⟨rfl, rfl, rfl, rfl⟩, by decide, by decide⟩
theorem rr242 (sh : Nat → Option Shp) : rrS sh 242 245 243 244 65536 := ⟨⟨rfl, rfl, rfl, rfl⟩, by decide, by decide⟩
theorem rr246 (sh : Nat → Option Shp) : rrS sh 246 249 247 248 65536 := ⟨⟨rfl, rfl, rfl, rfl⟩, by decide, by decide⟩
theorem rr250 (sh : Nat → Option Shp) : rrS sh 250 253 251 252 32768 := ⟨⟨rfl, rfl, rfl, rfl⟩, by decide, by decide⟩
theorem rr254 (sh : Nat → Option Shp) : rrS sh 254 257 255 256 16384 := ⟨⟨rfl, rfl, rfl, rfl⟩, by decide, by decide⟩
section MROWS
variable {d nx zl : Nat} {K : Option TV → FH → Prop} {sh : Nat → Option Shp} {M : FM}
theorem readTable_Y {r b st sz nb cap : Nat} {t x y : Int} (hp : rrS sh r b st sz nb) (hnb : (nb : Int) = 8192 * cap) (hcap : cap ≤ 8) (hby : 0 ≤ x * y ∧ x * y ≤ 100000) (hT : 0 ≤ bgn (M 211) t ∧ bgn (M 211) t ≤ t ∧ t + 8 ≤ 131072 ∧ pcs (M 211) (bgn (M 211) t) t)
    (k0 : ∀ M2 : FM, rdF M M2 r b st sz → (∀ R S, rdS (M 211) (bgn (M 211) t) t cap = some (R, S) → (R.length : Int) ≠ x * y) → K (some (ti 0)) (sh, M2, nx, zl))
    (k1 : ∀ (M2 : FM) (R S : List Int), rdF M M2 r b st sz → rdS (M 211) (bgn (M 211) t) t cap = some (R, S) → (R.length : Int) = x * y → rrV M2 r b st sz R S → K (some (ti 1)) (sh, M2, nx, zl)) : fm_Y (d + 6) 340 [.ref 168, .ref r, .long (Int64.ofInt t), .int (Int32.ofInt x), .int (Int32.ofInt y)] (sh, M, nx, zl) K := by
  have h1 := hp.1.1
  have eb : bgn (M 211) t = s64 (le (M 211) t 8) := rfl
  refine m340 [fx 168, gr r, tj t, ti x, ti y] ?_
  refine t8_Y (by omega) (fun l8 => ?_)
  rw [← eb] at l8 ⊢
  refine readRow_Y hp hnb hcap (by omega) (by omega) hT.2.2.2 (fun z M2 hF hz => ?_)
  rcases hz with ⟨z1, R, S, z2, z3⟩ | ⟨z1, z2⟩
  · rw [z1]
    refine ⟨by omega, fun q => by omega, fun _ => ?_⟩
    refine ⟨_, h1, ?_⟩
    have e := z3.1.1
    have hR := rdS_len z2
    refine ⟨by omega, fun w => ⟨Or.inl rfl, k0 M2 hF (fun R2 S2 h => ?_)⟩, fun w => ⟨Or.inr rfl, k1 M2 R S hF z2 (by omega) z3⟩⟩
    rw [z2] at h
    injection h with h
    injection h with h5 h6
    rw [← h5]
    omega
  · rw [z1]
    refine ⟨by omega, fun _ => ⟨Or.inl rfl, k0 M2 hF (fun R2 S2 h => ?_)⟩, fun q => absurd rfl q⟩
    rw [z2] at h
    cases h
theorem areRows_Y {s : Int} (hs : 96 ≤ s ∧ s ≤ 131072) (hsu : suP (M 211) s) (hc : suM (M 211) M) (hpl : plP (M 211))
    (k0 : ∀ M2 : FM, raF M M2 → ¬ rwE (M 211) → K (some (ti 0)) (sh, M2, nx, zl))
    (k1 : ∀ (M2 : FM) (IR IS LR LS FR FS XR XS DR DS : List Int), raF M M2 → rwP (M 211) IR IS LR LS FR FS XR XS DR DS → mwV (M 211) M2 IR IS LR LS FR FS XR XS DR DS → K (some (ti 1)) (sh, M2, nx, zl)) : fm_Y (d + 7) 327 [.ref 168] (sh, M, nx, zl) K := by
  obtain ⟨tI, tF, tX, tD⟩ := pl_tabs hsu hpl.1
  obtain ⟨hpT, pc1, pc2⟩ := hpl
  obtain ⟨s0, -, -, ⟨s1, s2, s3⟩, s4, s5⟩ := hsu
  have l16 := le_nn (M 211) 4 16
  have hU : plU (M 211) = s64 (le (M 211) 40 8) := rfl
  obtain ⟨⟨c92, c93, c94, c95⟩, ⟨c96, c97, c98, c99⟩, c100, c101, c102⟩ := hc
  have rF := s64_r (le (M 211) 80 8)
  have rX := s64_r (le (M 211) 88 8)
  have e100 : M 168 100 = plF (M 211) := c100
  have e101 : M 168 101 = plX (M 211) := c101
  have e102 : M 168 102 = plI (M 211) := c102
  have rX' : -9223372036854775808 ≤ plX (M 211) ∧ plX (M 211) ≤ 9223372036854775807 := rX
  have fix : ∀ M2 : FM, raF M M2 → M2 211 = M 211 ∧ (M2 168 92 = M 168 92 ∧ M2 168 94 = M 168 94 ∧ M2 168 95 = M 168 95) ∧ (M2 168 99 = M 168 99 ∧ M2 168 100 = M 168 100 ∧ M2 168 101 = M 168 101 ∧ M2 168 102 = M 168 102) := fun M2 h => ⟨h.1 211 (by omega) (by omega) (by omega), ⟨h.2 _ (by omega), h.2 _ (by omega), h.2 _ (by omega)⟩, h.2 _ (by omega), h.2 _ (by omega), h.2 _ (by omega), h.2 _ (by omega)⟩
  refine m327 [fx 168] ?_
  have X165 : ∀ (M2 : FM) (t : Int) (y : Option TV), raF M M2 → ¬ rwE (M 211) → b327_165 (d + 6) (fW (d + 6) kd327 K) K [some (fx 168), some (tj t), none, y] [ti 0] (sh, M2, nx, zl) := fun M2 t y h no => ⟨by omega, fun _ => ⟨Or.inl rfl, k0 M2 h no⟩, fun q => absurd rfl q⟩
  have X123 : ∀ (M2 : FM) (t : Int) (y : Option TV), raF M M2 → ¬ rwE (M 211) → b327_123 (d + 6) (fW (d + 6) kd327 K) K [some (fx 168), some (tj t), none, y] [ti 0] (sh, M2, nx, zl) := fun M2 t y h no => ⟨by omega, fun _ => X165 M2 t (some (ti 0)) h no, fun q => absurd rfl q⟩
  have X85 : ∀ (M2 : FM) (t : Int) (y : Option TV), raF M M2 → ¬ rwE (M 211) → b327_85 (d + 6) (fW (d + 6) kd327 K) K [some (fx 168), some (tj t), none, y] [ti 0] (sh, M2, nx, zl) := fun M2 t y h no => ⟨by omega, fun _ => X123 M2 t (some (ti 0)) h no, fun q => absurd rfl q⟩
  have GO : ∀ t : Int, t = plA (M 211) → b327_36 (d + 6) (fW (d + 6) kd327 K) K [some (fx 168), none, none, none] [tj t] (sh, M, nx, zl) := by
    intro t ht
    have eB : plB (M 211) = s64 (le (M 211) t 8) := by
      unfold plB
      rw [ht]
    refine readRow_Y (rr238 sh) (cap := 8) (by omega) (by omega) (by rw [c98, c99]; omega) (by rw [c99]; omega) (by rw [c98, c99]; exact pc1) (fun z M2 f2 hz => ?_)
    have r2 : raF M M2 := rdF_ra f2 (by omega) (by omega) (by omega) (by omega)
    rw [c98, c99] at hz
    rcases hz.symm with ⟨z1, e1⟩ | ⟨z1, IR, IS, e1, v1⟩
    · rw [z1]
      refine ⟨by omega, fun _ => X85 M2 t none r2 (fun ⟨IR, IS, LR, LS, FR, FS, XR, XS, DR, DS, h⟩ => ?_), fun q => absurd rfl q⟩
      have := h.1.1
      rw [e1] at this
      cases this
    rw [z1]
    refine ⟨by omega, fun q => by omega, fun _ => ?_⟩
    obtain ⟨a211, ⟨a92, a94, a95⟩, a99, a100, a101, a102⟩ := fix M2 r2
    refine t8_Y (by omega) (fun l8 => ?_)
    rw [a211, ← eB] at l8 ⊢
    refine readRow_Y (rr242 sh) (cap := 8) (by omega) (by omega) (by rw [a99, c99]; omega) (by omega) (by rw [a211, a99, c99]; exact pc2) (fun z M3 f3 hz => ?_)
    have r3 : raF M M3 := ra_trans r2 (rdF_ra f3 (by omega) (by omega) (by omega) (by omega))
    rw [a211, a99, c99] at hz
    rcases hz.symm with ⟨z3, e3⟩ | ⟨z3, LR, LS, e3, v3⟩
    · rw [z3]
      refine ⟨by omega, fun _ => X85 M3 t none r3 (fun ⟨IR, IS, LR, LS, FR, FS, XR, XS, DR, DS, h⟩ => ?_), fun q => absurd rfl q⟩
      have := h.1.2
      rw [e3] at this
      cases this
    rw [z3]
    have v1 := rrV_rd v1 f3 (by omega) (by omega) (by omega) (by omega) (by omega)
    obtain ⟨b211, ⟨b92, b94, b95⟩, b99, b100, b101, b102⟩ := fix M3 r3
    -- the ids' table
    have B165 : ∀ (M4 : FM) (FR FS XR XS : List Int) (y : Option TV), raF M M4 → rrV M4 238 241 239 240 IR IS → rrV M4 242 245 243 244 LR LS → (0 < le (M 211) 16 4 → (rdS (M 211) (bgn (M 211) (plF (M 211))) (plF (M 211)) 8 = some (FR, FS) ∧ (FR.length : Int) = 16 * le (M 211) 16 4) ∧ rrV M4 246 249 247 248 FR FS) → (plX (M 211) ≠ -1 → (rdS (M 211) (bgn (M 211) (plX (M 211))) (plX (M 211)) 4 = some (XR, XS) ∧ (XR.length : Int) = 8 * le (M 211) 4 4) ∧ rrV M4 250 253 251 252 XR XS) → b327_165 (d + 6) (fW (d + 6) kd327 K) K [some (fx 168), some (tj t), none, y] [ti 1] (sh, M4, nx, zl) := by
      intro M4 FR FS XR XS y r4 w1 w2 w3 w4
      obtain ⟨x211, ⟨x92, x94, x95⟩, x99, x100, x101, x102⟩ := fix M4 r4
      refine ⟨by omega, fun q => by omega, fun _ => ?_⟩
      refine readTable_Y (rr254 sh) (cap := 2) (by omega) (by omega) (by rw [x95, c95]; omega) (by rw [x211, x102, e102]; exact ⟨tD.1, tD.2.1, by omega, tD.2.2.2⟩) (fun M5 f5 no => ?_) (fun M5 DR DS f5 e5 l5 v5 => ?_)
      · have r5 : raF M M5 := ra_trans r4 (rdF_ra f5 (by omega) (by omega) (by omega) (by omega))
        refine ⟨by omega, fun _ => ⟨Or.inl rfl, k0 M5 r5 (fun ⟨IR, IS, LR, LS, FR, FS, XR, XS, DR, DS, h⟩ => ?_)⟩, fun q => absurd rfl q⟩
        have h2 := h.2.2.2
        rw [x211, x102, e102, x95, c95] at no
        exact no DR DS h2.1 (by have := h2.2; omega)
      · have r5 : raF M M5 := ra_trans r4 (rdF_ra f5 (by omega) (by omega) (by omega) (by omega))
        rw [x211, x102, e102] at e5
        rw [x95, c95] at l5
        exact ⟨by omega, fun q => by omega, fun _ => ⟨Or.inr rfl, k1 M5 IR IS LR LS FR FS XR XS DR DS r5 ⟨⟨e1, e3⟩, fun h => (w3 h).1, fun h => (w4 h).1, e5, by omega⟩ ⟨⟨rrV_rd w1 f5 (by omega) (by omega) (by omega) (by omega) (by omega), rrV_rd w2 f5 (by omega) (by omega) (by omega) (by omega) (by omega)⟩, fun h => rrV_rd (w3 h).2 f5 (by omega) (by omega) (by omega) (by omega) (by omega), fun h => rrV_rd (w4 h).2 f5 (by omega) (by omega) (by omega) (by omega) (by omega), v5⟩⟩⟩
    -- the exports' table
    have B123 : ∀ (M4 : FM) (FR FS : List Int) (y : Option TV), raF M M4 → rrV M4 238 241 239 240 IR IS → rrV M4 242 245 243 244 LR LS → (0 < le (M 211) 16 4 → (rdS (M 211) (bgn (M 211) (plF (M 211))) (plF (M 211)) 8 = some (FR, FS) ∧ (FR.length : Int) = 16 * le (M 211) 16 4) ∧ rrV M4 246 249 247 248 FR FS) → b327_123 (d + 6) (fW (d + 6) kd327 K) K [some (fx 168), some (tj t), none, y] [ti 1] (sh, M4, nx, zl) := by
      intro M4 FR FS y r4 w1 w2 w3
      obtain ⟨x211, ⟨x92, x94, x95⟩, x99, x100, x101, x102⟩ := fix M4 r4
      refine ⟨by omega, fun q => by omega, fun _ => ?_⟩
      refine ⟨by omega, fun w => B165 M4 FR FS [] [] (some (ti 1)) r4 w1 w2 w3 (fun h => absurd ?_ h), fun w => ?_⟩
      · omega
      have hx : plX (M 211) ≠ -1 := by omega
      have tX := tX hx
      refine readTable_Y (rr250 sh) (cap := 4) (by omega) (by omega) (by rw [x92, c92]; omega) (by rw [x211, x101, e101]; exact ⟨tX.1, tX.2.1, by omega, tX.2.2.2⟩) (fun M5 f5 no => ?_) (fun M5 XR XS f5 e5 l5 v5 => ?_)
      · have r5 : raF M M5 := ra_trans r4 (rdF_ra f5 (by omega) (by omega) (by omega) (by omega))
        refine ⟨by omega, fun _ => X165 M5 t (some (ti 1)) r5 (fun ⟨IR, IS, LR, LS, FR, FS, XR, XS, DR, DS, h⟩ => ?_), fun q => absurd rfl q⟩
        have h2 := h.2.2.1 hx
        rw [x211, x101, e101, x92, c92] at no
        exact no XR XS h2.1 (by have := h2.2; omega)
      · have r5 : raF M M5 := ra_trans r4 (rdF_ra f5 (by omega) (by omega) (by omega) (by omega))
        rw [x211, x101, e101] at e5
        rw [x92, c92] at l5
        refine ⟨by omega, fun q => by omega, fun _ => ?_⟩
        exact B165 M5 FR FS XR XS (some (ti 1)) r5 (rrV_rd w1 f5 (by omega) (by omega) (by omega) (by omega) (by omega)) (rrV_rd w2 f5 (by omega) (by omega) (by omega) (by omega) (by omega)) (fun h => ⟨(w3 h).1, rrV_rd (w3 h).2 f5 (by omega) (by omega) (by omega) (by omega) (by omega)⟩) (fun _ => ⟨⟨e5, by omega⟩, v5⟩)
    refine ⟨by omega, fun q => by omega, fun _ => ?_⟩
    refine ⟨by omega, fun q => by omega, fun _ => ?_⟩
    refine ⟨by omega, fun w => B123 M3 [] [] (some (ti 1)) r3 v1 v3 (fun h => by omega), fun w => ?_⟩
    have hf : 0 < le (M 211) 16 4 := by omega
    have tF := tF hf
    refine readTable_Y (rr246 sh) (cap := 8) (by omega) (by omega) (by rw [b94, c94]; omega) (by rw [b211, b100, e100]; exact ⟨tF.1, tF.2.1, by omega, tF.2.2.2⟩) (fun M5 f5 no => ?_) (fun M5 FR FS f5 e5 l5 v5 => ?_)
    · have r5 : raF M M5 := ra_trans r3 (rdF_ra f5 (by omega) (by omega) (by omega) (by omega))
      refine ⟨by omega, fun _ => X123 M5 t (some (ti 1)) r5 (fun ⟨IR, IS, LR, LS, FR, FS, XR, XS, DR, DS, h⟩ => ?_), fun q => absurd rfl q⟩
      have h2 := h.2.1 hf
      rw [b211, b100, e100, b94, c94] at no
      exact no FR FS h2.1 (by have := h2.2; omega)
    · have r5 : raF M M5 := ra_trans r3 (rdF_ra f5 (by omega) (by omega) (by omega) (by omega))
      rw [b211, b100, e100] at e5
      rw [b94, c94] at l5
      refine ⟨by omega, fun q => by omega, fun _ => ?_⟩
      exact B123 M5 FR FS (some (ti 1)) r5 (rrV_rd v1 f5 (by omega) (by omega) (by omega) (by omega) (by omega)) (rrV_rd v3 f5 (by omega) (by omega) (by omega) (by omega) (by omega)) (fun _ => ⟨⟨e5, by omega⟩, v5⟩)
  have eA : plA (M 211) = if 0 < le (M 211) 16 4 then plF (M 211) else if plX (M 211) ≠ -1 then plX (M 211) else plI (M 211) := rfl
  refine ⟨by omega, fun w => ?_, fun w => ?_⟩
  · rw [if_neg (by omega)] at eA
    refine ⟨by omega, fun w2 => ?_, fun w2 => ?_⟩
    · rw [if_neg (by omega)] at eA
      exact GO _ (by rw [eA]; exact e102)
    · rw [if_pos (by omega)] at eA
      exact GO _ (by rw [eA]; exact e101)
  · rw [if_pos (by omega)] at eA
    exact GO _ (by rw [eA]; exact e100)
end MROWS
