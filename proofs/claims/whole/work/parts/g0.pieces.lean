/-! MOUNTING: all rows; the class's piecesHold -/
def rwV (f : Int → Int) (M2 : FM) (IR IS LR LS FR FS XR XS DR DS : List Int) : Prop := (prV M2 102 104 105 103 IR IS (s64 (le f 72 8) - s64 (le f 64 8)) ∧ prV M2 109 111 112 110 LR LS (plB f - s64 (le f 72 8))) ∧ (0 < le f 16 4 → ∃ e, prV M2 117 119 120 118 FR FS e) ∧ (plX f ≠ -1 → ∃ e, prV M2 121 123 124 122 XR XS e) ∧ (∃ e, prV M2 125 127 128 126 DR DS e)
theorem rw_trans {M M2 M3 : FM} (h : rwF M M2) (h2 : rwF M2 M3) : rwF M M3 := fun c hc h5 => (h2 c hc h5).trans (h c hc h5)
theorem ld_trans {M M2 M3 : FM} {pr rr rb st : Nat} (h : rwF M M2) (h2 : ldF M2 M3 pr rr rb st) (h1 : 101 < pr ∧ pr ≤ 128 ∧ pr ≠ 114) (h3 : 101 < rr ∧ rr ≤ 128 ∧ rr ≠ 114) (h4 : 101 < rb ∧ rb ≤ 128 ∧ rb ≠ 114) (h5 : 101 < st ∧ st ≤ 128 ∧ st ≠ 114) : rwF M M3 := rw_trans h (ldF_rw h2 h1 h3 h4 h5)
/-- the rows loaded so far stay where another is loaded -/
theorem prV_ld {M M2 : FM} {pr rr rb st pr2 rr2 rb2 st2 : Nat} {R S : List Int} {e : Int} (h : prV M pr rr rb st R S e) (h2 : ldF M M2 pr2 rr2 rb2 st2) (b1 : 100 ≤ pr ∧ pr < 129 ∧ 100 ≤ rr ∧ rr < 129 ∧ 100 ≤ rb ∧ rb < 129 ∧ 100 ≤ st ∧ st < 129) (n1 : pr ≠ pr2 ∧ pr ≠ rr2 ∧ pr ≠ rb2 ∧ pr ≠ st2) (n2 : rr ≠ pr2 ∧ rr ≠ rr2 ∧ rr ≠ rb2 ∧ rr ≠ st2) (n3 : rb ≠ pr2 ∧ rb ≠ rr2 ∧ rb ≠ rb2 ∧ rb ≠ st2) (n4 : st ≠ pr2 ∧ st ≠ rr2 ∧ st ≠ rb2 ∧ st ≠ st2) : prV M2 pr rr rb st R S e :=
  prV_to h (h2 _ n1.1 n1.2.1 n1.2.2.1 n1.2.2.2 (by omega) (by omega)) (h2 _ n2.1 n2.2.1 n2.2.2.1 n2.2.2.2 (by omega) (by omega)) (h2 _ n3.1 n3.2.1 n3.2.2.1 n3.2.2.2 (by omega) (by omega)) (h2 _ n4.1 n4.2.1 n4.2.2.1 n4.2.2.2 (by omega) (by omega))
section PIECES
variable {d nx zl : Nat} {K : Option TV → FH → Prop} {sh : Nat → Option Shp} {M : FM}
theorem piecesHold_Y (hs : 96 ≤ M 98 1 ∧ M 98 1 ≤ 131072) (hsu : suP (M 99) (M 98 1)) (hc : suC (M 99) M) (hfx : uFx M) (hpl : plP (M 99))
    (k0 : ∀ M2 : FM, rwF M M2 → ¬ rwE (M 99) → K (some (ti 0)) (sh, M2, nx, zl))
    (k1 : ∀ (M2 : FM) (IR IS LR LS FR FS XR XS DR DS : List Int), rwF M M2 → rwP (M 99) IR IS LR LS FR FS XR XS DR DS → rwV (M 99) M2 IR IS LR LS FR FS XR XS DR DS → K (some (ti 1)) (sh, M2, nx, zl)) : fm_Y (d + 7) 137 [.ref 97] (sh, M, nx, zl) K := by
  obtain ⟨tI, tF, tX, tD⟩ := pl_tabs hsu hpl.1
  obtain ⟨hpT, pc1, pc2⟩ := hpl
  have hsu0 := hsu
  obtain ⟨s0, -, -, ⟨s1, s2, s3⟩, s4, s5⟩ := hsu
  have l16 := le_nn (M 99) 4 16
  have hU : plU (M 99) = s64 (le (M 99) 40 8) := rfl
  have hF : plF (M 99) = s64 (le (M 99) 80 8) := rfl
  have hX : plX (M 99) = s64 (le (M 99) 88 8) := rfl
  have hI : plI (M 99) = s64 (le (M 99) 48 8) := rfl
  have hc0 := hc
  obtain ⟨c9, c10, c11, c12, c13, c14, c15, c16⟩ := hc
  have fix : ∀ M2 : FM, rwF M M2 → M2 97 = M 97 ∧ M2 98 = M 98 ∧ M2 99 = M 99 ∧ uFx M2 := fun M2 h => ⟨h 97 (by omega) (by omega), h 98 (by omega) (by omega), h 99 (by omega) (by omega), uFx_to hfx (fun c hc => h c (by omega) (by omega))⟩
  refine m137 [fx 97] ?_
  refine load_Y (pr102 sh) (cap := 8) (by omega) (by omega) (by omega) hfx (by rw [c15, c16]; omega) (by rw [c16]; omega) (by rw [c15, c16]; exact pc1) (fun z M2 f2 hz => ?_)
  have r2 : rwF M M2 := ldF_rw f2 (by omega) (by omega) (by omega) (by omega)
  rw [c15, c16] at hz
  rcases hz.symm with ⟨z1, e1⟩ | ⟨z1, IR, IS, e1, v1⟩
  · rw [z1]
    refine ⟨by omega, fun _ => ⟨Or.inl rfl, k0 M2 r2 (fun ⟨IR, IS, LR, LS, FR, FS, XR, XS, DR, DS, h⟩ => ?_)⟩, fun q => absurd rfl q⟩
    have := h.1.1
    rw [e1] at this
    cases this
  rw [z1]
  refine ⟨by omega, fun q => by omega, fun _ => ?_⟩
  obtain ⟨a97, a98, a99, afx⟩ := fix M2 r2
  refine tablesAt_Y (by rw [a98]; exact hs) (by rw [a99]; exact suC_to hc0 a97) (by rw [a99]; omega) (by rw [a98, a99]; omega) ?_
  rw [a99]
  refine load_Y (pr109 sh) (cap := 8) (by omega) (by omega) (by rw [a98]; omega) afx (by rw [a97, c16]; omega) (by rw [a98]; omega) (by rw [a97, a99, c16]; exact pc2) (fun z M3 f3 hz => ?_)
  have r3 : rwF M M3 := ld_trans r2 f3 (by omega) (by omega) (by omega) (by omega)
  rw [a97, a99, c16] at hz
  rcases hz.symm with ⟨z3, e3⟩ | ⟨z3, LR, LS, e3, v3⟩
  · rw [z3]
    refine ⟨by omega, fun _ => ⟨Or.inl rfl, k0 M3 r3 (fun ⟨IR, IS, LR, LS, FR, FS, XR, XS, DR, DS, h⟩ => ?_)⟩, fun q => absurd rfl q⟩
    have := h.1.2
    rw [e3] at this
    cases this
  rw [z3]
  have v1 := prV_ld v1 f3 (by omega) (by omega) (by omega) (by omega) (by omega)
  obtain ⟨b97, b98, b99, bfx⟩ := fix M3 r3
  -- the ids' table
  have B112 : ∀ (M4 : FM) (FR FS XR XS : List Int), rwF M M4 → prV M4 102 104 105 103 IR IS (s64 (le (M 99) 72 8) - s64 (le (M 99) 64 8)) → prV M4 109 111 112 110 LR LS (plB (M 99) - s64 (le (M 99) 72 8)) → (0 < le (M 99) 16 4 → (rdS (M 99) (bgn (M 99) (plF (M 99))) (plF (M 99)) 8 = some (FR, FS) ∧ (FR.length : Int) = 16 * le (M 99) 16 4) ∧ ∃ e, prV M4 117 119 120 118 FR FS e) → (plX (M 99) ≠ -1 → (rdS (M 99) (bgn (M 99) (plX (M 99))) (plX (M 99)) 4 = some (XR, XS) ∧ (XR.length : Int) = 8 * le (M 99) 4 4) ∧ ∃ e, prV M4 121 123 124 122 XR XS e) → b137_112 (d + 6) (fW (d + 6) kd137 K) K [some (fx 97)] [] (sh, M4, nx, zl) := by
    intro M4 FR FS XR XS r4 w1 w2 w3 w4
    obtain ⟨x97, x98, x99, xfx⟩ := fix M4 r4
    refine tableHolds_Y (pr125 sh) (cap := 2) (by omega) (by omega) (by rw [x98]; exact hs) xfx (by omega) (by rw [x97, c12]; omega) (by rw [x98, x99, ← hI]; exact ⟨tD.1, tD.2.1, by omega, tD.2.2.2⟩) (fun M5 f5 no => ?_) (fun M5 DR DS f5 e5 l5 v5 => ?_)
    · have r5 : rwF M M5 := ld_trans r4 f5 (by omega) (by omega) (by omega) (by omega)
      refine ⟨by omega, fun _ => ⟨Or.inl rfl, k0 M5 r5 (fun ⟨IR, IS, LR, LS, FR, FS, XR, XS, DR, DS, h⟩ => ?_)⟩, fun q => absurd rfl q⟩
      have h2 := h.2.2.2
      rw [x99, x97, c12] at no
      exact no DR DS h2.1 h2.2
    · have r5 : rwF M M5 := ld_trans r4 f5 (by omega) (by omega) (by omega) (by omega)
      rw [x99] at e5
      rw [x97, c12] at l5
      refine ⟨by omega, fun q => by omega, fun _ => ⟨Or.inr rfl, k1 M5 IR IS LR LS FR FS XR XS DR DS r5 ⟨⟨e1, e3⟩, fun h => (w3 h).1, fun h => (w4 h).1, e5, l5⟩ ⟨⟨prV_ld w1 f5 (by omega) (by omega) (by omega) (by omega) (by omega), prV_ld w2 f5 (by omega) (by omega) (by omega) (by omega) (by omega)⟩, fun h => ?_, fun h => ?_, v5⟩⟩⟩
      · obtain ⟨-, e, y⟩ := w3 h
        exact ⟨e, prV_ld y f5 (by omega) (by omega) (by omega) (by omega) (by omega)⟩
      · obtain ⟨-, e, y⟩ := w4 h
        exact ⟨e, prV_ld y f5 (by omega) (by omega) (by omega) (by omega) (by omega)⟩
  -- the exports' table
  have B85 : ∀ (M4 : FM) (FR FS : List Int), rwF M M4 → prV M4 102 104 105 103 IR IS (s64 (le (M 99) 72 8) - s64 (le (M 99) 64 8)) → prV M4 109 111 112 110 LR LS (plB (M 99) - s64 (le (M 99) 72 8)) → (0 < le (M 99) 16 4 → (rdS (M 99) (bgn (M 99) (plF (M 99))) (plF (M 99)) 8 = some (FR, FS) ∧ (FR.length : Int) = 16 * le (M 99) 16 4) ∧ ∃ e, prV M4 117 119 120 118 FR FS e) → b137_85 (d + 6) (fW (d + 6) kd137 K) K [some (fx 97)] [] (sh, M4, nx, zl) := by
    intro M4 FR FS r4 w1 w2 w3
    obtain ⟨x97, x98, x99, xfx⟩ := fix M4 r4
    have q13 : M4 97 13 % 2 = 0 ↔ plX (M 99) = -1 := by
      rw [x97]
      exact c13
    refine ⟨by omega, fun w => B112 M4 FR FS [] [] r4 w1 w2 w3 (fun h => absurd (q13.1 w) h), fun w => ?_⟩
    have hx : plX (M 99) ≠ -1 := fun h => w (q13.2 h)
    have tX := tX hx
    refine tableHolds_Y (pr121 sh) (cap := 4) (by omega) (by omega) (by rw [x98]; exact hs) xfx (by omega) (by rw [x97, c10]; omega) (by rw [x98, x99, ← hX]; exact ⟨tX.1, tX.2.1, by omega, tX.2.2.2⟩) (fun M5 f5 no => ?_) (fun M5 XR XS f5 e5 l5 v5 => ?_)
    · have r5 : rwF M M5 := ld_trans r4 f5 (by omega) (by omega) (by omega) (by omega)
      refine ⟨by omega, fun _ => ⟨Or.inl rfl, k0 M5 r5 (fun ⟨IR, IS, LR, LS, FR, FS, XR, XS, DR, DS, h⟩ => ?_)⟩, fun q => absurd rfl q⟩
      have h2 := h.2.2.1 hx
      rw [x99, x97, c10] at no
      exact no XR XS h2.1 h2.2
    · have r5 : rwF M M5 := ld_trans r4 f5 (by omega) (by omega) (by omega) (by omega)
      rw [x99] at e5
      rw [x97, c10] at l5
      refine ⟨by omega, fun q => by omega, fun _ => ?_⟩
      refine B112 M5 FR FS XR XS r5 (prV_ld w1 f5 (by omega) (by omega) (by omega) (by omega) (by omega)) (prV_ld w2 f5 (by omega) (by omega) (by omega) (by omega) (by omega)) (fun h => ?_) (fun _ => ⟨⟨e5, l5⟩, v5⟩)
      obtain ⟨y0, e, y⟩ := w3 h
      exact ⟨y0, e, prV_ld y f5 (by omega) (by omega) (by omega) (by omega) (by omega)⟩
  refine ⟨by omega, fun q => by omega, fun _ => ?_⟩
  refine ⟨by rw [b97]; omega, fun w => B85 M3 [] [] r3 v1 v3 (fun h => ?_), fun w => ?_⟩
  · rw [b97, c11] at w
    omega
  have hf : 0 < le (M 99) 16 4 := by
    rw [b97, c11] at w
    omega
  have tF := tF hf
  refine tableHolds_Y (pr117 sh) (cap := 8) (by omega) (by omega) (by rw [b98]; exact hs) bfx (by omega) (by rw [b97, c11]; omega) (by rw [b98, b99, ← hF]; exact ⟨tF.1, tF.2.1, by omega, tF.2.2.2⟩) (fun M5 f5 no => ?_) (fun M5 FR FS f5 e5 l5 v5 => ?_)
  · have r5 : rwF M M5 := ld_trans r3 f5 (by omega) (by omega) (by omega) (by omega)
    refine ⟨by omega, fun _ => ⟨Or.inl rfl, k0 M5 r5 (fun ⟨IR, IS, LR, LS, FR, FS, XR, XS, DR, DS, h⟩ => ?_)⟩, fun q => absurd rfl q⟩
    have h2 := h.2.1 hf
    rw [b99, b97, c11] at no
    exact no FR FS h2.1 h2.2
  · have r5 : rwF M M5 := ld_trans r3 f5 (by omega) (by omega) (by omega) (by omega)
    rw [b99] at e5
    rw [b97, c11] at l5
    refine ⟨by omega, fun q => by omega, fun _ => ?_⟩
    exact B85 M5 FR FS r5 (prV_ld v1 f5 (by omega) (by omega) (by omega) (by omega) (by omega)) (prV_ld v3 f5 (by omega) (by omega) (by omega) (by omega) (by omega)) (fun _ => ⟨⟨e5, l5⟩, v5⟩)
end PIECES
