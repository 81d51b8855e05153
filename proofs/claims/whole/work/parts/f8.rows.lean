/-! MOUNTING: all rows; the class -/
def bgn (f : Int → Int) (t : Int) : Int := s64 (le f t 8)
/-- the rows' bytes and the begins of their pieces -/
def rwP (f : Int → Int) (IR IS LR LS FR FS XR XS DR DS : List Int) : Prop := (rdS f (s64 (le f 64 8)) (s64 (le f 72 8)) 8 = some (IR, IS) ∧ rdS f (s64 (le f 72 8)) (plB f) 8 = some (LR, LS)) ∧ (0 < le f 16 4 → rdS f (bgn f (plF f)) (plF f) 8 = some (FR, FS) ∧ (FR.length : Int) = 16 * le f 16 4) ∧ (plX f ≠ -1 → rdS f (bgn f (plX f)) (plX f) 4 = some (XR, XS) ∧ (XR.length : Int) = 8 * le f 4 4) ∧ (rdS f (bgn f (plI f)) (plI f) 2 = some (DR, DS) ∧ (DR.length : Int) = 4 * le f 26 2)
def rwE (f : Int → Int) : Prop := ∃ IR IS LR LS FR FS XR XS DR DS, rwP f IR IS LR LS FR FS XR XS DR DS
theorem pbS_len {f : Int → Int} {p : Int} {o : List Int} (h : pbS f p = some o) : o.length ≤ 32768 := by
  unfold pbS at h
  split at h
  · injection h with h
    rw [← h, sl_len]
    omega
  · cases hu : unS f (p + 2) (le f p 2 % 32768) 8192 with
    | none =>
      rw [hu] at h
      cases h
    | some o2 =>
      rw [hu] at h
      have z := unS_len hu
      dsimp only at h
      split at h
      · cases h
      · injection h with h
        rw [← h]
        omega
theorem rdG_len {f : Int → Int} {a m : Int} {cap : Nat} {R2 S2 : List Int} : ∀ (g : Nat) (p : Int) (R S : List Int), R.length ≤ 32768 * S.length → S.length ≤ cap → rdG f a m cap g p R S = some (R2, S2) → R2.length ≤ 32768 * S2.length ∧ S2.length ≤ cap
  | 0, p, R, S, _, _, h => by cases h
  | g + 1, p, R, S, h1, h2, h => by
    have h3 : (if m ≤ p then some (R, S) else if R.length ≠ 8192 * S.length ∨ cap ≤ S.length then none else match pbS f p with
      | none => none
      | some o => rdG f a m cap g (p + 2 + le f p 2 % 32768) (R ++ o) (S ++ [p - a])) = some (R2, S2) := h
    by_cases c1 : m ≤ p
    · rw [if_pos c1] at h3
      injection h3 with h3
      injection h3 with h4 h5
      rw [← h4, ← h5]
      exact ⟨h1, h2⟩
    · rw [if_neg c1] at h3
      by_cases c2 : R.length ≠ 8192 * S.length ∨ cap ≤ S.length
      · rw [if_pos c2] at h3
        cases h3
      · rw [if_neg c2] at h3
        cases hb : pbS f p with
        | none =>
          rw [hb] at h3
          cases h3
        | some o =>
          rw [hb] at h3
          have ol := pbS_len hb
          have h6 : rdG f a m cap g (p + 2 + le f p 2 % 32768) (R ++ o) (S ++ [p - a]) = some (R2, S2) := h3
          refine rdG_len g _ _ _ ?_ ?_ h6
          · rw [List.length_append, List.length_append]
            simp only [List.length_cons, List.length_nil]
            omega
          · rw [List.length_append]
            simp only [List.length_cons, List.length_nil]
            omega
theorem rdS_len {f : Int → Int} {a m : Int} {cap : Nat} {R S : List Int} (h : rdS f a m cap = some (R, S)) : R.length ≤ 32768 * S.length ∧ S.length ≤ cap := rdG_len _ _ _ _ (Nat.zero_le _) (Nat.zero_le _) h
theorem tbG_pcs {f : Int → Int} {t : Int} : ∀ (g : Nat) (k p : Int) (G : Nat), 0 ≤ p → t - p < G → tbG f t g k p → pcG f t G p
  | 0, k, p, G, h0, h1, h => by
    have e : p = t := h
    cases G with
    | zero => omega
    | succ G => exact Or.inl e
  | g + 1, k, p, G, h0, h1, h => by
    have h3 := tbG_lt h
    cases G with
    | zero => omega
    | succ G =>
      refine Or.inr ⟨h0, by omega, ?_⟩
      rcases pE_rng f p t h0 with c | c
      · have := h.2.1
        omega
      · exact tbG_pcs g (k + 1) _ G (by omega) (by omega) h.2.2
/-- a table's pieces lie from its first one to its list -/
theorem tb_pcs {f : Int → Int} {u t a : Int} {n : Nat} (ha : 0 ≤ a) (hn : 1 ≤ n) (h : tbP f u t n a) : bgn f t = a ∧ a + 3 ≤ t ∧ pcs f a t ∧ t + 8 ≤ u := by
  obtain ⟨m, rfl⟩ : ∃ m, n = m + 1 := ⟨n - 1, by omega⟩
  obtain ⟨h1, h2, h3⟩ := h
  have z := tbG_lt h3
  refine ⟨?_, z, tbG_pcs _ _ _ _ ha (by omega) h3, by omega⟩
  have y := h3.1
  rw [show t + 8 * 0 = t by omega] at y
  exact y
/-- what the three tables are, where the parts lie right -/
theorem pl_tabs {f : Int → Int} {s : Int} (hsu : suP f s) (hp : plT f) : (0 ≤ plA f ∧ plA f + 8 ≤ plU f ∧ s64 (le f 72 8) ≤ plB f ∧ plB f ≤ plU f) ∧ (0 < le f 16 4 → 0 ≤ bgn f (plF f) ∧ bgn f (plF f) ≤ plF f ∧ plF f + 8 ≤ plU f ∧ pcs f (bgn f (plF f)) (plF f)) ∧ (plX f ≠ -1 → 0 ≤ bgn f (plX f) ∧ bgn f (plX f) ≤ plX f ∧ plX f + 8 ≤ plU f ∧ pcs f (bgn f (plX f)) (plX f)) ∧ (0 ≤ bgn f (plI f) ∧ bgn f (plI f) ≤ plI f ∧ plI f + 8 ≤ plU f ∧ pcs f (bgn f (plI f)) (plI f)) := by
  obtain ⟨s0, -, -, ⟨s1, s2, s3⟩, s4, s5⟩ := hsu
  obtain ⟨p1, p2, p3, p4, p5⟩ := hp
  have l16 := le_nn f 4 16
  have nF : (plNF f : Int) = (16 * le f 16 4 + 8191) / 8192 := by
    unfold plNF
    omega
  have nX : (plNX f : Int) = (8 * le f 4 4 + 8191) / 8192 := by
    unfold plNX
    omega
  have nI : (plNI f : Int) = (4 * le f 26 2 + 8191) / 8192 := by
    unfold plNI
    omega
  have b0 : 0 ≤ plB f := by omega
  have F : 0 < le f 16 4 → bgn f (plF f) = plB f ∧ plB f + 3 ≤ plF f ∧ pcs f (plB f) (plF f) ∧ plF f + 8 ≤ plU f := fun h => tb_pcs b0 (by omega) (p2 h)
  have q1 : 0 ≤ plP1 f := by
    unfold plP1
    split
    · rename_i c
      have := F c
      omega
    · exact b0
  have X : plX f ≠ -1 → bgn f (plX f) = plP1 f ∧ plP1 f + 3 ≤ plX f ∧ pcs f (plP1 f) (plX f) ∧ plX f + 8 ≤ plU f := fun h => tb_pcs q1 (by omega) (p3 h)
  have q2 : 0 ≤ plP2 f := by
    unfold plP2
    split
    · rename_i c
      have := X c
      omega
    · exact q1
  have D := tb_pcs q2 (show 1 ≤ plNI f by omega) p4
  refine ⟨by omega, fun h => ?_, fun h => ?_, ?_⟩
  · obtain ⟨e, x1, x2, x3⟩ := F h
    rw [e]
    exact ⟨b0, by omega, x3, x2⟩
  · obtain ⟨e, x1, x2, x3⟩ := X h
    rw [e]
    exact ⟨q1, by omega, x3, x2⟩
  · obtain ⟨e, x1, x2, x3⟩ := D
    rw [e]
    exact ⟨q2, by omega, x3, x2⟩
theorem pr102 (sh : Nat → Option Shp) : prS sh 102 104 105 103 65536 := ⟨⟨rfl, ⟨⟨rfl, rfl⟩, by decide, by decide, by decide, by decide⟩, rfl⟩, by decide, by decide⟩
theorem pr109 (sh : Nat → Option Shp) : prS sh 109 111 112 110 65536 := ⟨⟨rfl, ⟨⟨rfl, rfl⟩, by decide, by decide, by decide, by decide⟩, rfl⟩, by decide, by decide⟩
theorem pr117 (sh : Nat → Option Shp) : prS sh 117 119 120 118 65536 := ⟨⟨rfl, ⟨⟨rfl, rfl⟩, by decide, by decide, by decide, by decide⟩, rfl⟩, by decide, by decide⟩
theorem pr121 (sh : Nat → Option Shp) : prS sh 121 123 124 122 32768 := ⟨⟨rfl, ⟨⟨rfl, rfl⟩, by decide, by decide, by decide, by decide⟩, rfl⟩, by decide, by decide⟩
theorem pr125 (sh : Nat → Option Shp) : prS sh 125 127 128 126 16384 := ⟨⟨rfl, ⟨⟨rfl, rfl⟩, by decide, by decide, by decide, by decide⟩, rfl⟩, by decide, by decide⟩
def rwF (M M2 : FM) : Prop := ∀ c : Nat, (c ≤ 101 ∨ 150 < c ∨ c = 114) → c ≠ 165 → M2 c = M c
theorem ldF_rw {M M2 : FM} {pr rr rb st : Nat} (h : ldF M M2 pr rr rb st) (h1 : 101 < pr ∧ pr ≤ 128 ∧ pr ≠ 114) (h2 : 101 < rr ∧ rr ≤ 128 ∧ rr ≠ 114) (h3 : 101 < rb ∧ rb ≤ 128 ∧ rb ≠ 114) (h4 : 101 < st ∧ st ≤ 128 ∧ st ≠ 114) : rwF M M2 := fun c hc h5 => h c (by omega) (by omega) (by omega) (by omega) (by omega) h5
theorem prV_to {M M2 : FM} {pr rr rb st : Nat} {R S : List Int} {e : Int} (h : prV M pr rr rb st R S e) (h1 : M2 pr = M pr) (h2 : M2 rr = M rr) (h3 : M2 rb = M rb) (h4 : M2 st = M st) : prV M2 pr rr rb st R S e := by
  unfold prV
  rw [h1, h2, h3, h4]
  exact h
section ROWSALL
variable {d nx zl : Nat} {K : Option TV → FH → Prop} {sh : Nat → Option Shp} {M : FM}
theorem suC_to {f : Int → Int} {M M2 : FM} (h : suC f M) (e : M2 97 = M 97) : suC f M2 := by
  unfold suC
  rw [e]
  exact h
theorem tableHolds_Y {pr rr rb st nb cap : Nat} {q by0 : Int} (hp : prS sh pr rr rb st nb) (hnb : (nb : Int) = 8192 * cap) (hcap : cap ≤ 8) (hs : 96 ≤ M 98 1 ∧ M 98 1 ≤ 131072) (hfx : uFx M) (hq : 0 ≤ q ∧ q ≤ 88) (hby : 0 ≤ by0 ∧ by0 ≤ 100000) (hT : 0 ≤ bgn (M 99) (s64 (le (M 99) q 8)) ∧ bgn (M 99) (s64 (le (M 99) q 8)) ≤ s64 (le (M 99) q 8) ∧ s64 (le (M 99) q 8) + 8 ≤ M 98 1 ∧ pcs (M 99) (bgn (M 99) (s64 (le (M 99) q 8))) (s64 (le (M 99) q 8)))
    (k0 : ∀ M2 : FM, ldF M M2 pr rr rb st → (∀ R S, rdS (M 99) (bgn (M 99) (s64 (le (M 99) q 8))) (s64 (le (M 99) q 8)) cap = some (R, S) → (R.length : Int) ≠ by0) → K (some (ti 0)) (sh, M2, nx, zl))
    (k1 : ∀ (M2 : FM) (R S : List Int), ldF M M2 pr rr rb st → rdS (M 99) (bgn (M 99) (s64 (le (M 99) q 8))) (s64 (le (M 99) q 8)) cap = some (R, S) → (R.length : Int) = by0 → (∃ e, prV M2 pr rr rb st R S e) → K (some (ti 1)) (sh, M2, nx, zl)) : fm_Y (d + 6) 154 [.ref 97, .ref pr, .int (Int32.ofInt q), .int (Int32.ofInt by0)] (sh, M, nx, zl) K := by
  have hp0 := hp
  obtain ⟨⟨h1, h2, h3⟩, -, -⟩ := hp
  have h2r := h2.1.1
  refine m154 [fx 97, gr pr, ti q, ti by0] ?_
  refine tableBegin_Y hs hq (by omega) ?_
  refine i8_Y hs hq (fun t8 => ?_)
  refine ⟨⟨_, h1⟩, ?_⟩
  refine load_Y hp0 hnb hcap (by omega) hfx (by unfold bgn at hT; omega) (by omega) hT.2.2.2 (fun z M2 hF hz => ?_)
  rcases hz with ⟨z1, R, S, z2, z3⟩ | ⟨z1, z2⟩
  · rw [z1]
    refine ⟨by omega, fun q => by omega, fun _ => ?_⟩
    refine ⟨_, h1, ?_⟩
    refine ⟨_, h2r, ?_⟩
    have e := z3.1.1
    have rl : (R.length : Int) ≤ 200000 ∨ 200000 < (R.length : Int) := by omega
    have hR := rdS_len z2
    refine ⟨by omega, fun w => ⟨Or.inl rfl, k0 M2 hF (fun R2 S2 h => ?_)⟩, fun w => ⟨Or.inr rfl, k1 M2 R S hF z2 (by omega) ⟨_, z3⟩⟩⟩
    have z2' : rdS (M 99) (bgn (M 99) (s64 (le (M 99) q 8))) (s64 (le (M 99) q 8)) cap = some (R, S) := z2
    rw [z2'] at h
    injection h with h
    injection h with h5 h6
    rw [← h5]
    omega
  · rw [z1]
    refine ⟨by omega, fun _ => ⟨Or.inl rfl, k0 M2 hF (fun R2 S2 h => ?_)⟩, fun q => absurd rfl q⟩
    have z2' : rdS (M 99) (bgn (M 99) (s64 (le (M 99) q 8))) (s64 (le (M 99) q 8)) cap = none := z2
    rw [z2'] at h
    cases h
end ROWSALL
