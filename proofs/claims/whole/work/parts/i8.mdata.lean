/-! MOUNTING: the data; the reference -/
def s8M (M : FM) (IR IS LR LS : List Int) (B ids F n : Int) (pl h f fg : Int → Int) (s A : Int) : Prop := mlC M IR IS LR LS B ids F n pl h ∧ M 168 98 = A ∧ (agr (M 211) f s ∧ (0 ≤ A ∧ A ≤ s ∧ s ≤ 131072)) ∧ ((0 < F → agr (M 249) fg (16 * F)) ∧ frP B A fg F)
def m8F (M M2 : FM) : Prop := (∀ c : Nat, c ≠ 168 → (c < 195 ∨ 210 < c) → c ≠ 263 → c ≠ 264 → M2 c = M c) ∧ ∀ i : Int, (i < 50 ∨ 57 < i) → (i < 124 ∨ 129 < i) → M2 168 i = M 168 i
def oF8 (M M2 : FM) : Prop := (∀ c : Nat, c ≠ 168 → M2 c = M c) ∧ ∀ i : Int, (i < 124 ∨ 129 < i) → M2 168 i = M 168 i
def rbF (M M2 : FM) : Prop := (∀ c : Nat, c ≠ 168 → (c < 195 ∨ 210 < c) → c ≠ 264 → M2 c = M c) ∧ ∀ i : Int, (i < 50 ∨ 57 < i) → M2 168 i = M 168 i
theorem m8_refl (M : FM) : m8F M M := ⟨fun _ _ _ _ _ => rfl, fun _ _ _ => rfl⟩
theorem m8_trans {M M2 M3 : FM} (h : m8F M M2) (h2 : m8F M2 M3) : m8F M M3 := ⟨fun c a b e g => (h2.1 c a b e g).trans (h.1 c a b e g), fun i a b => (h2.2 i a b).trans (h.2 i a b)⟩
theorem m8_of {M M2 : FM} (h : oF8 M M2) : m8F M M2 := ⟨fun c a _ _ _ => h.1 c a, fun i _ b => h.2 i b⟩
theorem m8_rb {M M2 : FM} (h : rbF M M2) : m8F M M2 := ⟨fun c a b _ e => h.1 c a b e, fun i a _ => h.2 i a⟩
theorem of_refl (M : FM) : oF8 M M := ⟨fun _ _ => rfl, fun _ _ => rfl⟩
theorem of_trans {M M2 M3 : FM} (h : oF8 M M2) (h2 : oF8 M2 M3) : oF8 M M3 := ⟨fun c a => (h2.1 c a).trans (h.1 c a), fun i a => (h2.2 i a).trans (h.2 i a)⟩
theorem of_put {M M2 : FM} {i : Int} (x : Int) (h : oF8 M M2) (hi : 124 ≤ i ∧ i ≤ 129) : oF8 M (pq M2 168 i x) := ⟨fun c hc => (pq_o _ _ _ hc).trans (h.1 c hc), fun j hj => (pq_ne _ _ _ _ (by omega)).trans (h.2 j hj)⟩
theorem mlC_88 {M M2 : FM} {IR IS LR LS : List Int} {B ids F n : Int} {pl h : Int → Int} (hL : mlC M IR IS LR LS B ids F n pl h) (e : m8F M M2) : mlC M2 IR IS LR LS B ids F n pl h := by
  obtain ⟨e1, e2⟩ := e
  obtain ⟨⟨⟨a1, a2, a3, a4⟩, a5, a6, a7⟩, b, c, f⟩ := hL
  unfold mlC ndM
  rw [e1 238 (by omega) (by omega) (by omega) (by omega), e1 239 (by omega) (by omega) (by omega) (by omega), e1 241 (by omega) (by omega) (by omega) (by omega), e1 242 (by omega) (by omega) (by omega) (by omega), e1 243 (by omega) (by omega) (by omega) (by omega), e1 244 (by omega) (by omega) (by omega) (by omega), e1 245 (by omega) (by omega) (by omega) (by omega), e1 259 (by omega) (by omega) (by omega) (by omega), e1 260 (by omega) (by omega) (by omega) (by omega), e2 92 (by omega) (by omega), e2 93 (by omega) (by omega), e2 94 (by omega) (by omega), e2 95 (by omega) (by omega)]
  exact ⟨⟨⟨a1, a2, a3, a4⟩, a5, a6, a7⟩, b, c, f⟩
theorem s8M_to {M M2 : FM} {IR IS LR LS : List Int} {B ids F n : Int} {pl h f fg : Int → Int} {s A : Int} (h8 : s8M M IR IS LR LS B ids F n pl h f fg s A) (e : m8F M M2) : s8M M2 IR IS LR LS B ids F n pl h f fg s A := by
  obtain ⟨a1, a2, a3, a4⟩ := h8
  refine ⟨mlC_88 a1 e, ?_, ?_, ?_⟩
  · rw [e.2 98 (by omega) (by omega)]
    exact a2
  · rw [e.1 211 (by omega) (by omega) (by omega) (by omega)]
    exact a3
  · rw [e.1 249 (by omega) (by omega) (by omega) (by omega)]
    exact a4
/-- an opened file -/
def ofV (M : FM) (g : Int → Int) (B p : Int) : Prop := (M 168 124 = fSz g p ∧ M 168 125 = fBg g p ∧ M 168 126 = fFr g p ∧ M 168 127 = fOf g p) ∧ M 168 128 = bkC B g p ∧ M 168 129 = p + fxT (le g p 2)
theorem ofV_to {M M2 : FM} {g : Int → Int} {B p : Int} (h : ofV M g B p) (e : ∀ i : Int, 57 < i → M2 168 i = M 168 i) : ofV M2 g B p := by
  unfold ofV
  rw [e 124 (by omega), e 125 (by omega), e 126 (by omega), e 127 (by omega), e 128 (by omega), e 129 (by omega)]
  exact h
section MDATA
variable {d nx zl : Nat} {K : Option TV → FH → Prop} {sh : Nat → Option Shp} {M : FM} {IR IS LR LS : List Int} {B ids F n s A : Int} {pl h f fg : Int → Int}
theorem openFile_Y {j : Int} (hL : mlC M IR IS LR LS B ids F n pl h) (hj : 1 ≤ j ∧ j ≤ n) (hk : kdT (le (lf IR) (pl j) 2) = 2) (k : ∀ M2 : FM, oF8 M M2 → ofV M2 (lf IR) B (pl j) → K none (sh, M2, nx, zl)) : fm_Y (d + 4) 371 [.ref 168, .int (Int32.ofInt j)] (sh, M, nx, zl) K := by
  have hB := hL.1.1.2.1
  have n65 := hL.1.1.1.2.2.2
  obtain ⟨f1, f2, f3⟩ := fl_ok hB.2.1 hL.2.1 hj.1 hj.2 hk
  have fz := f1.1
  refine m371 [fx 168, ti j] ?_
  refine whereIs_Y hL hj ?_
  refine whereIs_Y hL hj ?_
  obtain ⟨p, gp⟩ : ∃ p : Int, p = pl j := ⟨_, rfl⟩
  rw [← gp] at k f1 f2 f3 fz hk ⊢
  have b0 := bk_r (B := B) hB.2.1 fz.1
  have eb : bkC B (lf IR) p = fSz (lf IR) p / B + (if fFr (lf IR) p = 4294967295 ∧ 0 < fSz (lf IR) p % B then 1 else 0) := rfl
  have mr := mod_r (fSz (lf IR) p) hB.2.1
  have fr4 : 0 ≤ fFr (lf IR) p ∧ fFr (lf IR) p < 4294967296 := by
    have q1 := le_nn (lf IR) 4 (p + 20)
    have q2 := le_lt4 (lf IR) (p + 20)
    have q3 := le_nn (lf IR) 4 (p + 44)
    have q4 := le_lt4 (lf IR) (p + 44)
    unfold fFr
    split <;> omega
  have B155 : ∀ (M1 : FM) (y3 : Int), oF8 M M1 → (M1 168 124 = fSz (lf IR) p ∧ M1 168 125 = fBg (lf IR) p ∧ M1 168 126 = fFr (lf IR) p ∧ M1 168 127 = fOf (lf IR) p) → b371_155 (d + 3) (fW (d + 3) kd371 K) K [some (fx 168), some (ti j), some (ti (p + 16)), some (ti y3), none] [ti (p + fxT (le (lf IR) p 2)), fx 168] (sh, M1, nx, zl) := by
    intro M1 y3 F1 e
    obtain ⟨e4, e5, e6, e7⟩ := e
    obtain ⟨P, gP⟩ : ∃ P : FM, P = pq M1 168 129 (p + fxT (le (lf IR) p 2)) := ⟨_, rfl⟩
    have FP : oF8 M P := by
      rw [gP]
      exact of_put _ F1 (by omega)
    have pn : ∀ i : Int, i ≠ 129 → P 168 i = M1 168 i := fun i hi => by rw [gP, pq_ne _ _ _ _ hi]
    have p9 : P 168 129 = p + fxT (le (lf IR) p 2) := by rw [gP, pq_at]
    have p4 := (pn 124 (by omega)).trans e4
    have p5 := (pn 125 (by omega)).trans e5
    have p6 := (pn 126 (by omega)).trans e6
    have p7 := (pn 127 (by omega)).trans e7
    have p93 : P 168 93 = B := (FP.2 93 (by omega)).trans hB.1
    have B189 : ∀ w : Int, (w = 0 ∨ w = 1) → fSz (lf IR) p / B + w = bkC B (lf IR) p → b371_189 (d + 3) (fW (d + 3) kd371 K) K [some (fx 168), some (ti j), some (ti (p + 16)), some (ti y3), none] [ti w] (sh, P, nx, zl) := by
      intro w hw ew
      have B213 : b371_213 (d + 3) (fW (d + 3) kd371 K) K [some (fx 168), some (ti j), some (ti (p + 16)), some (ti y3), some (ti w)] [ti w, ti (fSz (lf IR) p / B), fx 168] (sh, P, nx, zl) := by
        have T : K none (sh, pq P 168 128 (fSz (lf IR) p / B + w), nx, zl) := by
          refine k _ (of_put _ FP (by omega)) ⟨⟨?_, ?_, ?_, ?_⟩, ?_, ?_⟩
          · rw [pq_ne _ _ _ _ (by omega)]
            exact p4
          · rw [pq_ne _ _ _ _ (by omega)]
            exact p5
          · rw [pq_ne _ _ _ _ (by omega)]
            exact p6
          · rw [pq_ne _ _ _ _ (by omega)]
            exact p7
          · rw [pq_at]
            exact ew
          · rw [pq_ne _ _ _ _ (by omega)]
            exact p9
        exact T
      refine ⟨by omega, ?_⟩
      refine ⟨by omega, ?_⟩
      rw [p4, p93]
      rcases hw with w0 | w0
      · rw [w0] at B213 ⊢
        exact ⟨by omega, fun _ => B213, fun q => absurd rfl q⟩
      · rw [w0] at B213 ⊢
        exact ⟨by omega, fun q => by omega, fun _ => B213⟩
    have T1 : (o_al 0 (o_get 12 126 126 (o_lc 4294967295 (o_lcmp .ne (b371_188 (d + 3) (fW (d + 3) kd371 K) K) (o_al 0 (o_get 12 124 124 (o_al 0 (o_get 12 93 93 (o_i2l (o_lrem (o_lc 0 (o_lcmp .le (b371_188 (d + 3) (fW (d + 3) kd371 K) K) (o_ic 1 (b371_189 (d + 3) (fW (d + 3) kd371 K) K))))))))))))) : FC) [some (fx 168), some (ti j), some (ti (p + 16)), some (ti y3), none] [] (sh, P, nx, zl) := by
      refine ⟨by omega, fun w => B189 0 (Or.inl rfl) ?_, fun w => ?_⟩
      · rw [eb, if_neg (by omega)]
      · refine ⟨by omega, ?_⟩
        refine ⟨by omega, ?_⟩
        rw [p4, p93]
        refine ⟨by omega, fun w2 => B189 0 (Or.inl rfl) ?_, fun w2 => B189 1 (Or.inr rfl) ?_⟩
        · rw [eb, if_neg (by omega)]
        · rw [eb, if_pos (by omega)]
    rw [gP] at T1
    exact T1
  refine typeAt_Y hL.1.1 (by omega) (fun l => ?_)
  have sz : fSz (lf IR) p = if le (lf IR) p 2 ≤ 7 then le (lf IR) (p + 28) 4 else s64 (le (lf IR) (p + 24) 8) := rfl
  have sf : fFr (lf IR) p = if le (lf IR) p 2 ≤ 7 then le (lf IR) (p + 20) 4 else le (lf IR) (p + 44) 4 := rfl
  have so : fOf (lf IR) p = if le (lf IR) p 2 ≤ 7 then le (lf IR) (p + 24) 4 else le (lf IR) (p + 48) 4 := rfl
  have sb : fBg (lf IR) p = if le (lf IR) p 2 ≤ 7 then le (lf IR) (p + 16) 4 else s64 (le (lf IR) (p + 16) 8) := rfl
  -- the puts one after the other
  have B136 : ∀ (M1 : FM) (y3 : Int), oF8 M M1 → (M1 168 124 = fSz (lf IR) p ∧ M1 168 125 = fBg (lf IR) p ∧ M1 168 126 = fFr (lf IR) p) → (y3 = 0 ∧ fxT (le (lf IR) p 2) = 56 ∨ y3 = 1 ∧ fxT (le (lf IR) p 2) = 32) → b371_136 (d + 3) (fW (d + 3) kd371 K) K [some (fx 168), some (ti j), some (ti (p + 16)), some (ti y3), none] [tj (fOf (lf IR) p), fx 168] (sh, M1, nx, zl) := by
    intro M1 y3 F1 e hy
    obtain ⟨P, gP⟩ : ∃ P : FM, P = pq M1 168 127 (fOf (lf IR) p) := ⟨_, rfl⟩
    have T0 := B155 P y3 (by rw [gP]; exact of_put _ F1 (by omega)) ⟨by rw [gP, pq_ne _ _ _ _ (by omega)]; exact e.1, by rw [gP, pq_ne _ _ _ _ (by omega)]; exact e.2.1, by rw [gP, pq_ne _ _ _ _ (by omega)]; exact e.2.2, by rw [gP, pq_at]⟩
    have T1 : (o_al 0 (o_il 3 (o_if .eq (o_il 2 (o_ic 40 (o_iadd (b371_155 (d + 3) (fW (d + 3) kd371 K) K)))) (o_il 2 (o_ic 16 (o_iadd (b371_155 (d + 3) (fW (d + 3) kd371 K) K)))))) : FC) [some (fx 168), some (ti j), some (ti (p + 16)), some (ti y3), none] [] (sh, P, nx, zl) := by
      rcases hy with ⟨y0, y1⟩ | ⟨y0, y1⟩
      · rw [y0] at T0 ⊢
        rw [y1, show p + 56 = p + 16 + 40 by omega] at T0
        exact ⟨by omega, fun _ => T0, fun q => absurd rfl q⟩
      · rw [y0] at T0 ⊢
        rw [y1, show p + 32 = p + 16 + 16 by omega] at T0
        exact ⟨by omega, fun q => by omega, fun _ => T0⟩
    rw [gP] at T1
    exact T1
  have B107 : ∀ (M1 : FM) (y3 : Int), oF8 M M1 → (M1 168 124 = fSz (lf IR) p ∧ M1 168 125 = fBg (lf IR) p) → (y3 = 0 ∧ (le (lf IR) p 2 = 9 ∧ fxT (le (lf IR) p 2) = 56) ∨ y3 = 1 ∧ (le (lf IR) p 2 = 2 ∧ fxT (le (lf IR) p 2) = 32)) → b371_107 (d + 3) (fW (d + 3) kd371 K) K [some (fx 168), some (ti j), some (ti (p + 16)), some (ti y3), none] [tj (fFr (lf IR) p), fx 168] (sh, M1, nx, zl) := by
    intro M1 y3 F1 e hy
    obtain ⟨P, gP⟩ : ∃ P : FM, P = pq M1 168 126 (fFr (lf IR) p) := ⟨_, rfl⟩
    have FP : oF8 M P := by
      rw [gP]
      exact of_put _ F1 (by omega)
    have hLP := mlC_88 hL (m8_of FP)
    have T0 := B136 P y3 FP ⟨by rw [gP, pq_ne _ _ _ _ (by omega)]; exact e.1, by rw [gP, pq_ne _ _ _ _ (by omega)]; exact e.2, by rw [gP, pq_at]⟩ (by omega)
    have T1 : (o_al 0 (o_il 3 (o_if .eq (o_al 0 (o_il 2 (o_ic 32 (o_iadd (o_ic 4 (o_callv (d + 3) 346 2 12 (b371_136 (d + 3) (fW (d + 3) kd371 K) K))))))) (o_al 0 (o_il 2 (o_ic 8 (o_iadd (o_ic 4 (o_callv (d + 3) 346 2 12 (b371_136 (d + 3) (fW (d + 3) kd371 K) K))))))))) : FC) [some (fx 168), some (ti j), some (ti (p + 16)), some (ti y3), none] [] (sh, P, nx, zl) := by
      rcases hy with ⟨y0, y1, y2⟩ | ⟨y0, y1, y2⟩
      · rw [if_neg (by omega)] at so
        rw [so] at T0
        rw [y0] at T0 ⊢
        refine ⟨by omega, fun _ => ?_, fun q => absurd rfl q⟩
        exact v4_Y (p + 48) hLP.1.1 (by omega) (by omega) (fun _ => T0)
      · rw [if_pos (by omega)] at so
        rw [so] at T0
        rw [y0] at T0 ⊢
        refine ⟨by omega, fun q => by omega, fun _ => ?_⟩
        exact v4_Y (p + 24) hLP.1.1 (by omega) (by omega) (fun _ => T0)
    rw [gP] at T1
    exact T1
  have B79 : ∀ (M1 : FM) (y3 : Int), oF8 M M1 → M1 168 125 = fBg (lf IR) p → (y3 = 0 ∧ (le (lf IR) p 2 = 9 ∧ fxT (le (lf IR) p 2) = 56) ∨ y3 = 1 ∧ (le (lf IR) p 2 = 2 ∧ fxT (le (lf IR) p 2) = 32)) → b371_79 (d + 3) (fW (d + 3) kd371 K) K [some (fx 168), some (ti j), some (ti (p + 16)), some (ti y3), none] [tj (fSz (lf IR) p), fx 168] (sh, M1, nx, zl) := by
    intro M1 y3 F1 e hy
    obtain ⟨P, gP⟩ : ∃ P : FM, P = pq M1 168 124 (fSz (lf IR) p) := ⟨_, rfl⟩
    have FP : oF8 M P := by
      rw [gP]
      exact of_put _ F1 (by omega)
    have hLP := mlC_88 hL (m8_of FP)
    have T0 := B107 P y3 FP ⟨by rw [gP, pq_at], by rw [gP, pq_ne _ _ _ _ (by omega)]; exact e⟩ hy
    have T1 : (o_al 0 (o_il 3 (o_if .eq (o_al 0 (o_il 2 (o_ic 28 (o_iadd (o_ic 4 (o_callv (d + 3) 346 2 12 (b371_107 (d + 3) (fW (d + 3) kd371 K) K))))))) (o_al 0 (o_il 2 (o_ic 4 (o_iadd (o_ic 4 (o_callv (d + 3) 346 2 12 (b371_107 (d + 3) (fW (d + 3) kd371 K) K))))))))) : FC) [some (fx 168), some (ti j), some (ti (p + 16)), some (ti y3), none] [] (sh, P, nx, zl) := by
      rcases hy with ⟨y0, y1, y2⟩ | ⟨y0, y1, y2⟩
      · rw [if_neg (by omega)] at sf
        rw [sf] at T0
        rw [y0] at T0 ⊢
        refine ⟨by omega, fun _ => ?_, fun q => absurd rfl q⟩
        exact v4_Y (p + 44) hLP.1.1 (by omega) (by omega) (fun _ => T0)
      · rw [if_pos (by omega)] at sf
        rw [sf] at T0
        rw [y0] at T0 ⊢
        refine ⟨by omega, fun q => by omega, fun _ => ?_⟩
        exact v4_Y (p + 20) hLP.1.1 (by omega) (by omega) (fun _ => T0)
    rw [gP] at T1
    exact T1
  have B49 : ∀ (y3 : Int), (y3 = 0 ∧ (le (lf IR) p 2 = 9 ∧ fxT (le (lf IR) p 2) = 56) ∨ y3 = 1 ∧ (le (lf IR) p 2 = 2 ∧ fxT (le (lf IR) p 2) = 32)) → b371_49 (d + 3) (fW (d + 3) kd371 K) K [some (fx 168), some (ti j), some (ti (p + 16)), some (ti y3), none] [tj (fBg (lf IR) p), fx 168] (sh, M, nx, zl) := by
    intro y3 hy
    obtain ⟨P, gP⟩ : ∃ P : FM, P = pq M 168 125 (fBg (lf IR) p) := ⟨_, rfl⟩
    have FP : oF8 M P := by
      rw [gP]
      exact of_put _ (of_refl M) (by omega)
    have hLP := mlC_88 hL (m8_of FP)
    have T0 := B79 P y3 FP (by rw [gP, pq_at]) hy
    have T1 : (o_al 0 (o_il 3 (o_if .eq (o_al 0 (o_il 2 (o_ic 8 (o_iadd (o_ic 8 (o_callv (d + 3) 346 2 12 (b371_79 (d + 3) (fW (d + 3) kd371 K) K))))))) (o_al 0 (o_il 2 (o_ic 12 (o_iadd (o_ic 4 (o_callv (d + 3) 346 2 12 (b371_79 (d + 3) (fW (d + 3) kd371 K) K))))))))) : FC) [some (fx 168), some (ti j), some (ti (p + 16)), some (ti y3), none] [] (sh, P, nx, zl) := by
      rcases hy with ⟨y0, y1, y2⟩ | ⟨y0, y1, y2⟩
      · rw [if_neg (by omega)] at sz
        rw [sz] at T0
        rw [y0] at T0 ⊢
        refine ⟨by omega, fun _ => ?_, fun q => absurd rfl q⟩
        exact v8_Y (p + 24) hLP.1.1 (by omega) (by omega) (fun _ => T0)
      · rw [if_pos (by omega)] at sz
        rw [sz] at T0
        rw [y0] at T0 ⊢
        refine ⟨by omega, fun q => by omega, fun _ => ?_⟩
        exact v4_Y (p + 28) hLP.1.1 (by omega) (by omega) (fun _ => T0)
    rw [gP] at T1
    exact T1
  refine ⟨by omega, fun w => ?_, fun w => ?_⟩
  · have T0 := B49 0 (by omega)
    rw [if_neg (by omega)] at sb
    rw [sb] at T0
    refine ⟨by omega, fun _ => ?_, fun q => absurd rfl q⟩
    exact v8_Y (p + 16) hL.1.1 (by omega) (by omega) (fun _ => T0)
  · have T0 := B49 1 (by omega)
    rw [if_pos (by omega)] at sb
    rw [sb] at T0
    refine ⟨by omega, fun q => by omega, fun _ => ?_⟩
    exact v4_Y (p + 16) hL.1.1 (by omega) (by omega) (fun _ => T0)
theorem readBlock_Y {a x : Int} (h8 : s8M M IR IS LR LS B ids F n pl h f fg s A) (hx : 0 ≤ x ∧ x < 33554432) (hm : x % 16777216 ≤ B) (ha : 0 ≤ a ∧ a + x % 16777216 ≤ A) (k : ∀ M2 : FM, rbF M M2 → (∀ o : List Int, bdS f B a x = some o → sl (M2 264) 0 o.length = o) → (-1 ≤ rvO (bdS f B a x) ∧ rvO (bdS f B a x) ≤ B) → K (some (ti (rvO (bdS f B a x)))) (sh, M2, nx, zl)) : fm_Y (d + 5) 375 [.ref 168, .long (Int64.ofInt a), .int (Int32.ofInt x)] (sh, M, nx, zl) K := by
  obtain ⟨a1, a2, ⟨a3, a6⟩, -⟩ := h8
  have hB := a1.1.1.2.1
  have rr := bdS_r (f := f) (a := a) (by omega) hm
  refine m375 [fx 168, tj a, ti x] ?_
  refine ⟨by omega, fun w => ?_, fun w => ?_⟩
  · have e : bdS f B a x = some (sl f a (x % 16777216).toNat) := if_pos (by omega)
    have L : ∀ (G : Nat) (i : Int) (M1 : FM), (x % 16777216 - i).toNat < G → 0 ≤ i → i ≤ x % 16777216 → (∀ c : Nat, c ≠ 264 → M1 c = M c) → (∀ q : Int, 0 ≤ q → q < i → M1 264 q % 256 = f (a + q) % 256) → fm_X (d + 4) kd375 38 [some (fx 168), some (tj a), none, some (ti x), some (ti (x % 16777216)), some (ti i)] [] (sh, M1, nx, zl) K := by
      intro G
      induction G with
      | zero => intro i M1 q; omega
      | succ G ih =>
        intro i M1 q1 q2 q3 F1 hq
        refine s375_38 (d + 4) K _ _ _ ?_
        refine ⟨by omega, fun w2 => ?_, fun w2 => ?_⟩
        · have T := k M1 ⟨fun c _ _ c3 => F1 c c3, fun i _ => by rw [F1 168 (by omega)]⟩ (fun o ho => ?_) rr
          · rw [e] at T
            have T' : K (some (ti ((sl f a (x % 16777216).toNat).length : Int))) (sh, M1, nx, zl) := T
            rw [sl_len, show (((x % 16777216).toNat : Nat) : Int) = x % 16777216 by omega] at T'
            exact T'
          · rw [e] at ho
            injection ho with ho
            rw [← ho, sl_len]
            exact sl_congr _ _ _ (fun i hi => by rw [Int.zero_add]; exact hq _ (by omega) (by omega))
        · have e211 : M1 211 = M 211 := F1 211 (by omega)
          refine ⟨by omega, ?_⟩
          refine ⟨by omega, ?_⟩
          obtain ⟨P, gP⟩ : ∃ P : FM, P = pq M1 264 i ((M1 211 (a + i) + 128) % 256 - 128) := ⟨_, rfl⟩
          have TL : fm_X (d + 4) kd375 38 [some (fx 168), some (tj a), none, some (ti x), some (ti (x % 16777216)), some (ti (i + 1))] [] (sh, P, nx, zl) K := by
            refine ih (i + 1) P (by omega) (by omega) (by omega) (fun c hc => by rw [gP, pq_o _ _ _ hc]; exact F1 c hc) (fun q q0 q1 => ?_)
            by_cases c : q = i
            · rw [c, gP, pq_at, e211]
              have := a3 (a + i) (by omega) (by omega)
              omega
            · rw [gP, pq_ne _ _ _ _ c]
              exact hq q q0 (by omega)
          rw [gP] at TL
          exact TL
    exact L _ 0 M (Nat.lt_succ_self _) (by omega) (by omega) (fun c _ => rfl) (fun q q0 q1 => by omega)
  · have e : bdS f B a x = unS f a (x % 16777216) B := if_neg (by omega)
    have cg : unS (M 211) a (x % 16777216) B = unS f a (x % 16777216) B := unS_cg a3 (by omega) (by omega)
    refine munpack_Y (d := d) (nS := 131072) (nT := 65536) rfl rfl (by decide) (by decide) (by omega) (by omega) (by omega) (by omega) (fun hu M3 hF => ?_) (fun o hu M3 hF hsl => ?_)
    · rw [hB.1, cg, ← e] at hu
      have T := k M3 ⟨fun c c1 c2 c3 => hF.1 c c1 c3 c2, fun i hi => hF.2.1 i hi⟩ (fun o ho => by rw [hu] at ho; cases ho) rr
      rw [hu] at T
      exact T
    · rw [hB.1, cg, ← e] at hu
      have T := k M3 ⟨fun c c1 c2 c3 => hF.1 c c1 c3 c2, fun i hi => hF.2.1 i hi⟩ (fun o2 ho => by
        rw [hu] at ho
        injection ho with ho
        rw [← ho]
        exact hsl) rr
      rw [hu] at T
      exact T
theorem readFragment_Y {i : Int} (h8 : s8M M IR IS LR LS B ids F n pl h f fg s A) (hi : 0 ≤ i ∧ i < F) (k : ∀ M2 : FM, rbF M M2 → (∀ o : List Int, bdS f B (s64 (le fg (16 * i) 8)) (le fg (16 * i + 8) 4) = some o → sl (M2 264) 0 o.length = o) → (-1 ≤ fsF f B fg i ∧ fsF f B fg i ≤ B) → K (some (ti (fsF f B fg i))) (sh, M2, nx, zl)) : fm_Y (d + 6) 374 [.ref 168, .int (Int32.ofInt i)] (sh, M, nx, zl) K := by
  obtain ⟨a1, a2, a3, ⟨f2, f3⟩⟩ := id h8
  have g2 := f2 (by omega)
  have Fr := a1.1.1.2.2.1
  obtain ⟨q1, q2, q3⟩ := f3 i hi.1 hi.2
  have hr := (rr246 sh).1.2.1
  refine m374 [fx 168, ti i] ?_
  refine n8_Y hr (by omega) g2 (by omega) (by omega) (fun b8 => ?_)
  refine n4_Y hr (by omega) g2 (by omega) (by omega) (fun x1 => ?_)
  exact readBlock_Y h8 (by omega) (by omega) (by omega) k
theorem blockOf_Y {p i : Int} (hL : mlC M IR IS LR LS B ids F n pl h) (hv : ofV M (lf IR) B p) (hp : 0 ≤ p) (hi : 0 ≤ i ∧ p + fxT (le (lf IR) p 2) + 4 * i + 4 ≤ IR.length) (k : (0 ≤ blN (lf IR) p i ∧ blN (lf IR) p i < 4294967296) → K (some (ti (blN (lf IR) p i))) (sh, M, nx, zl)) : fm_Y (d + 3) 372 [.ref 168, .int (Int32.ofInt i)] (sh, M, nx, zl) K := by
  have fr := fxT_r (le (lf IR) p 2)
  have e9 := hv.2.2
  refine m372 [fx 168, ti i] ?_
  exact v4_Y (p + fxT (le (lf IR) p 2) + 4 * i) hL.1.1 (by omega) (by omega) (fun l => k l)
theorem bytesOf_Y {p i : Int} (hB : M 168 93 = B ∧ 4096 ≤ B ∧ B ≤ 65536) (hv : ofV M (lf IR) B p) (hz : 0 ≤ fSz (lf IR) p ∧ fSz (lf IR) p < 1099511627776) (hi : 0 ≤ i ∧ i ≤ 65536) (hk : i < bkC B (lf IR) p) (k : (0 ≤ bbN B (lf IR) p i ∧ bbN B (lf IR) p i ≤ B) → K (some (ti (bbN B (lf IR) p i))) (sh, M, nx, zl)) : fm_Y (d + 1) 373 [.ref 168, .int (Int32.ofInt i)] (sh, M, nx, zl) K := by
  obtain ⟨b1, b2, b3⟩ := hB
  have bm := bc_mul b2 hz.1 hi.1 hk
  have br := bb_r b2 hz.1 hi.1 hk
  have e4 := hv.1.1
  have eb : bbN B (lf IR) p i = min B (fSz (lf IR) p - i * B) := rfl
  refine m373 [fx 168, ti i] ?_
  refine ⟨by omega, ?_⟩
  refine ⟨by omega, ?_⟩
  rw [e4, b1]
  refine ⟨by omega, ?_⟩
  refine ⟨by omega, fun w => ?_, fun w => ?_⟩
  · have T := k br
    rw [show bbN B (lf IR) p i = M 168 93 by omega] at T
    exact T
  · have T := k br
    rw [show bbN B (lf IR) p i = fSz (lf IR) p - i * B by omega] at T
    exact T
theorem allData_Y (hL : mlC M IR IS LR LS B ids F n pl h) (k : ∀ M2 : FM, oF8 M M2 → (0 ≤ saD B F (lf IR) pl (kdF IR pl) n.toNat ∧ saD B F (lf IR) pl (kdF IR pl) n.toNat ≤ 4611686018427387904) → K (some (tj (saD B F (lf IR) pl (kdF IR pl) n.toNat))) (sh, M2, nx, zl)) : fm_Y (d + 5) 370 [.ref 168] (sh, M, nx, zl) K := by
  have nr := hL.1.2.1
  have hB := hL.1.1.2.1
  have n65 := hL.1.1.1.2.2.2
  have Fr := hL.1.1.2.2.1
  have hv := hL.2.1
  have sr := saD_r (F := F) ⟨hB.2.1, hB.2.2⟩ ⟨Fr.2.1, Fr.2.2⟩ n65 hv
  refine m370 [fx 168] ?_
  refine ⟨by omega, ?_⟩
  refine ⟨by omega, ?_⟩
  rw [Fr.1, hB.1]
  have L : ∀ (G : Nat) (m : Nat) (j : Int) (M1 : FM) (y4 : Option TV), (n + 1 - j).toNat < G → j = m + 1 → j ≤ n + 1 → oF8 M M1 → fm_X (d + 4) kd370 14 [some (fx 168), some (tj (saD B F (lf IR) pl (kdF IR pl) m)), none, some (ti j), y4] [] (sh, M1, nx, zl) K := by
    intro G
    induction G with
    | zero => intro m j M1 y4 q; omega
    | succ G ih =>
      intro m j M1 y4 q1 q2 q3 F1
      have srm : 0 ≤ saD B F (lf IR) pl (kdF IR pl) m ∧ saD B F (lf IR) pl (kdF IR pl) m ≤ 268435456 + 1073741824 * m := sr m (by omega)
      have hL1 := mlC_88 hL (m8_of F1)
      have nr1 := hL1.1.2.1
      refine s370_14 (d + 4) K _ _ _ ?_
      refine ⟨by omega, fun w => ?_, fun w => ?_⟩
      · have em : n.toNat = m := by omega
        rw [em] at k
        exact k M1 F1 (by omega)
      obtain ⟨ap, hd0⟩ := nd_ok hB.2.1 hv (show 1 ≤ j by omega) (show j ≤ n by omega)
      have hT := hd0.2.1
      have h16 := hd0.1
      have kr : 1 ≤ kdT (le (lf IR) (pl j) 2) ∧ kdT (le (lf IR) (pl j) 2) ≤ 7 := by
        unfold kdT
        split <;> omega
      have ej : ((m : Int) + 1) = j := by omega
      have sm : saD B F (lf IR) pl (kdF IR pl) (m + 1) = if kdF IR pl (m + 1) = 2 then saD B F (lf IR) pl (kdF IR pl) m + sbF B (lf IR) (pl (m + 1)) (bkC B (lf IR) (pl (m + 1))).toNat else saD B F (lf IR) pl (kdF IR pl) m := rfl
      rw [ej] at sm
      refine whereIs_Y hL1 (by omega) ?_
      refine kindAt_Y hL1.1.1 (by omega) hT ?_
      refine ⟨by omega, fun w2 => ?_, fun w2 => ?_⟩
      · rw [if_neg (show kdF IR pl j ≠ 2 from w2)] at sm
        rw [← sm]
        exact ih (m + 1) (j + 1) M1 _ (by omega) (by omega) (by omega) F1
      · rw [if_pos (show kdF IR pl j = 2 from w2)] at sm
        obtain ⟨f1, f2, f3⟩ := fl_ok hB.2.1 hv (show 1 ≤ j by omega) (show j ≤ n by omega) w2
        have f4 := f1.2.2.1
        have f5 := f1.2.2.2
        have fz := f1.1
        have b0 := bk_r (B := B) hB.2.1 fz.1
        have eb : bkC B (lf IR) (pl j) = bcN B (fSz (lf IR) (pl j)) (fFr (lf IR) (pl j)) := rfl
        rw [← eb] at f4 f5
        refine openFile_Y hL1 (by omega) w2 (fun M2 F2 ov => ?_)
        have F12 := of_trans F1 F2
        have hL2 := mlC_88 hL (m8_of F12)
        have e28 := ov.2.1
        have hB2 := hL2.1.1.2.1
        have L64 : ∀ (G2 : Nat) (i : Nat) (ii : Int), (bkC B (lf IR) (pl j) - ii).toNat < G2 → ii = i → ii ≤ bkC B (lf IR) (pl j) → fm_X (d + 4) kd370 43 [some (fx 168), some (tj (saD B F (lf IR) pl (kdF IR pl) m + sbF B (lf IR) (pl j) i)), none, some (ti j), some (ti ii)] [] (sh, M2, nx, zl) K := by
          intro G2
          induction G2 with
          | zero => intro i ii q; omega
          | succ G2 ih2 =>
            intro i ii p1 p2 p3
            refine s370_43 (d + 4) K _ _ _ ?_
            refine ⟨by omega, fun w3 => ?_, fun w3 => ?_⟩
            · have ei : (bkC B (lf IR) (pl j)).toNat = i := by omega
              rw [ei] at sm
              rw [← sm]
              exact ih (m + 1) (j + 1) M2 _ (by omega) (by omega) (by omega) F12
            have bp := f5 ii (by omega) (by omega)
            have si : sbF B (lf IR) (pl j) (i + 1) = if blN (lf IR) (pl j) i = 0 then sbF B (lf IR) (pl j) i else sbF B (lf IR) (pl j) i + bbN B (lf IR) (pl j) i := rfl
            rw [← p2] at si
            refine blockOf_Y hL2 ov (by omega) (by omega) (fun x1 => ?_)
            have en : blN (lf IR) (pl j) ii = le (lf IR) (pl j + fxT (le (lf IR) (pl j) 2) + 4 * ii) 4 := rfl
            rw [← en] at bp
            have bp1 := bp.1
            refine ⟨by omega, fun w4 => ?_, fun w4 => ?_⟩
            · rw [if_pos (by omega)] at si
              rw [← si]
              exact ih2 (i + 1) (ii + 1) (by omega) (by omega) (by omega)
            · rw [if_neg (by omega)] at si
              refine bytesOf_Y hB2 ov fz (by omega) (by omega) (fun br => ?_)
              refine ⟨by omega, ?_⟩
              have T := ih2 (i + 1) (ii + 1) (by omega) (by omega) (by omega)
              rw [si, ← Int.add_assoc] at T
              exact T
        have T := L64 _ 0 0 (Nat.lt_succ_self _) rfl (by omega)
        have e0 : sbF B (lf IR) (pl j) 0 = 0 := rfl
        rw [e0, Int.add_zero] at T
        exact T
  exact L _ 0 1 M _ (Nat.lt_succ_self _) (by omega) (by omega) (of_refl M)
theorem isData_Y {j : Int} (h8 : s8M M IR IS LR LS B ids F n pl h f fg s A) (hj : 1 ≤ j ∧ j ≤ n) (hk : kdT (le (lf IR) (pl j) 2) = 2) (hfs : ∀ i : Int, 0 ≤ i → i < F → M 263 i = fsF f B fg i) (k : ∀ (M2 : FM) (z : Int), m8F M M2 → M2 263 = M 263 → (z = 1 ∧ fdP f (lf IR) (fsF f B fg) B A (pl j) ∨ z = 0 ∧ ¬ fdP f (lf IR) (fsF f B fg) B A (pl j)) → K (some (ti z)) (sh, M2, nx, zl)) : fm_Y (d + 6) 376 [.ref 168, .int (Int32.ofInt j)] (sh, M, nx, zl) K := by
  obtain ⟨hL, c98, ⟨c2, c3⟩, a4⟩ := id h8
  have hB := hL.1.1.2.1
  have n65 := hL.1.1.1.2.2.2
  have Fr := hL.1.1.2.2.1
  have hv := hL.2.1
  obtain ⟨f1, f2, f3⟩ := fl_ok hB.2.1 hv hj.1 hj.2 hk
  refine m376 [fx 168, ti j] ?_
  refine openFile_Y hL hj hk (fun M0 F0 ov => ?_)
  obtain ⟨p, gp⟩ : ∃ p : Int, p = pl j := ⟨_, rfl⟩
  rw [← gp] at k f1 f2 f3 hk ov
  have f4 := f1.2.2.1
  have f5 := f1.2.2.2
  have f6 := f1.2.1
  have fz := f1.1
  have b0 := bk_r (B := B) hB.2.1 fz.1
  have eb : bkC B (lf IR) p = bcN B (fSz (lf IR) p) (fFr (lf IR) p) := rfl
  rw [← eb] at f4 f5
  have mr := mod_r (fSz (lf IR) p) hB.2.1
  have fr4 : (0 ≤ fFr (lf IR) p ∧ fFr (lf IR) p < 4294967296) ∧ (0 ≤ fOf (lf IR) p ∧ fOf (lf IR) p < 4294967296) := by
    have q1 := le_nn (lf IR) 4 (p + 20)
    have q2 := le_lt4 (lf IR) (p + 20)
    have q3 := le_nn (lf IR) 4 (p + 44)
    have q4 := le_lt4 (lf IR) (p + 44)
    have q5 := le_nn (lf IR) 4 (p + 24)
    have q6 := le_lt4 (lf IR) (p + 24)
    have q7 := le_nn (lf IR) 4 (p + 48)
    have q8 := le_lt4 (lf IR) (p + 48)
    unfold fFr fOf
    constructor <;> split <;> omega
  have br : -9223372036854775808 ≤ fBg (lf IR) p ∧ fBg (lf IR) p ≤ 9223372036854775807 := by
    have q1 := le_nn (lf IR) 4 (p + 16)
    have q2 := le_lt4 (lf IR) (p + 16)
    have q3 := s64_r (le (lf IR) (p + 16) 8)
    unfold fBg
    split <;> omega
  obtain ⟨Q, gQ⟩ : ∃ Q : Prop, Q = (fFr (lf IR) p ≠ 4294967295 → fOf (lf IR) p + fSz (lf IR) p % B ≤ fsF f B fg (fFr (lf IR) p)) := ⟨_, rfl⟩
  obtain ⟨P, gP⟩ : ∃ P : Prop, P = bwP f (lf IR) B A p (bkC B (lf IR) p).toNat 0 (fBg (lf IR) p) := ⟨_, rfl⟩
  have eP : fdP f (lf IR) (fsF f B fg) B A p ↔ (Q ∧ P) := by
    rw [gP, gQ]
    exact Iff.rfl
  rw [eP] at k
  have L : ∀ (m : Nat) (i a : Int) (M1 : FM) (y5 y6 : Option TV), i = bkC B (lf IR) p - m → 0 ≤ i → (-9223372036854775808 ≤ a ∧ a ≤ 9223372036854775807) → m8F M M1 → M1 263 = M 263 → ofV M1 (lf IR) B p → (P ↔ bwP f (lf IR) B A p m i a) → fm_X (d + 5) kd376 13 [some (fx 168), some (ti j), some (tj a), none, some (ti i), y5, y6] [] (sh, M1, nx, zl) K := by
    intro m
    induction m with
    | zero =>
      intro i a M1 y5 y6 q1 q2 q3 F1 e63 ov1 hP
      have h81 := s8M_to h8 F1
      have hB1 := h81.1.1.1.2.1
      have hPt : P := hP.2 trivial
      obtain ⟨⟨o4, o5, o6, o7⟩, o8, o9⟩ := ov1
      refine s376_13 (d + 5) K _ _ _ ?_
      refine ⟨by omega, fun _ => ?_, fun w => by omega⟩
      refine ⟨by omega, fun w1 => ⟨Or.inr rfl, k M1 1 F1 e63 (Or.inl ⟨rfl, ?_, hPt⟩)⟩, fun w1 => ?_⟩
      · rw [gQ]
        exact fun q => by omega
      have g1 := f6 (by omega)
      have e67 := hfs (fFr (lf IR) p) (by omega) (by omega)
      have frI := a4.2 (fFr (lf IR) p) (by omega) (by omega)
      have rr : -1 ≤ fsF f B fg (fFr (lf IR) p) ∧ fsF f B fg (fFr (lf IR) p) ≤ B := bdS_r (by omega) frI.2.1.2.2
      refine ⟨by omega, ?_⟩
      refine ⟨by omega, ?_⟩
      refine ⟨by omega, ?_⟩
      rw [e63, o6, e67]
      refine ⟨by omega, ?_⟩
      rw [o7, o4, hB1.1]
      refine ⟨by omega, fun w2 => ⟨Or.inl rfl, k M1 0 F1 e63 (Or.inr ⟨rfl, fun q => ?_⟩)⟩, fun w2 => ⟨Or.inr rfl, k M1 1 F1 e63 (Or.inl ⟨rfl, ?_, hPt⟩)⟩⟩
      · have q1 := q.1
        rw [gQ] at q1
        have := q1 (by omega)
        omega
      · rw [gQ]
        exact fun _ => by omega
    | succ m ih =>
      intro i a M1 y5 y6 q1 q2 q3 F1 e63 ov1 hP
      have h81 := s8M_to h8 F1
      have hL1 := h81.1
      have en : blN (lf IR) p i = le (lf IR) (p + fxT (le (lf IR) p 2) + 4 * i) 4 := rfl
      have bp := f5 i q2 (by omega)
      rw [← en] at bp
      obtain ⟨bp1, bp2, bp3⟩ := bp
      have e98 : M1 168 98 = A := h81.2.1
      have o8 := ov1.2.1
      refine s376_13 (d + 5) K _ _ _ ?_
      refine ⟨by omega, fun w => by omega, fun _ => ?_⟩
      refine blockOf_Y hL1 ov1 (by omega) (by omega) (fun u1 => ?_)
      obtain ⟨v, gv⟩ : ∃ v : Int, v = blN (lf IR) p i := ⟨_, rfl⟩
      have hP2 : P ↔ (v ≠ 0 → (96 ≤ a ∧ a ≤ A - v % 16777216 ∧ rvO (bdS f B a v) = bbN B (lf IR) p i) ∧ bwP f (lf IR) B A p m (i + 1) (a + v % 16777216)) ∧ (v = 0 → bwP f (lf IR) B A p m (i + 1) a) := by
        rw [gv]
        exact hP
      rw [← gv] at bp1 bp2 bp3 u1 ⊢
      refine ⟨by omega, fun w1 => ?_, fun w1 => ?_⟩
      · refine ⟨by omega, fun _ => ?_, fun q => absurd w1 q⟩
        exact ih (i + 1) a M1 _ _ (by omega) (by omega) q3 F1 e63 ov1 (hP2.trans ⟨fun q => q.2 w1, fun q => ⟨fun y => absurd w1 y, fun _ => q⟩⟩)
      · have NO : ∀ M5 : FM, m8F M M5 → M5 263 = M 263 → ¬ (96 ≤ a ∧ a ≤ A - v % 16777216 ∧ rvO (bdS f B a v) = bbN B (lf IR) p i) → K (some (ti 0)) (sh, M5, nx, zl) := fun M5 F5 e5 q => k M5 0 F5 e5 (Or.inr ⟨rfl, fun y => q ((hP2.1 y.2).1 w1).1⟩)
        refine ⟨by omega, fun w2 => ⟨Or.inl rfl, NO M1 F1 e63 (fun q => by omega)⟩, fun w2 => ?_⟩
        refine ⟨by omega, ?_⟩
        refine ⟨by omega, fun w3 => ⟨Or.inl rfl, NO M1 F1 e63 (fun q => by omega)⟩, fun w3 => ?_⟩
        refine readBlock_Y h81 (by omega) bp2 (by omega) (fun M2 F2 _ rr => ?_)
        have F12 := m8_trans F1 (m8_rb F2)
        have e2 : M2 263 = M 263 := (F2.1 263 (by omega) (by omega) (by omega)).trans e63
        have ov2 := ofV_to ov1 (fun i hi => F2.2 i (by omega))
        have hB2 := (s8M_to h8 F12).1.1.1.2.1
        refine bytesOf_Y hB2 ov2 fz (by omega) (by omega) (fun br2 => ?_)
        refine ⟨by omega, fun w4 => ?_, fun w4 => ⟨Or.inl rfl, NO M2 F12 e2 (fun q => w4 q.2.2)⟩⟩
        refine ⟨by omega, fun q => absurd q w1, fun _ => ?_⟩
        refine ⟨by omega, ?_⟩
        exact ih (i + 1) (a + v % 16777216) M2 _ _ (by omega) (by omega) (by omega) F12 e2 ov2 (hP2.trans ⟨fun q => (q.1 w1).2, fun q => ⟨fun _ => ⟨⟨by omega, by omega, w4⟩, q⟩, fun y => absurd y w1⟩⟩)
  have T := L (bkC B (lf IR) p).toNat 0 (fBg (lf IR) p) M0 none none (by omega) (by omega) br (m8_of F0) (F0.1 263 (by omega)) ov (by rw [gP])
  rw [← ov.1.2.1] at T
  exact T
theorem areData_Y (h8 : s8M M IR IS LR LS B ids F n pl h f fg s A)
    (k0 : ∀ M2 : FM, m8F M M2 → ¬ dtP f (lf IR) fg B F A n pl (kdF IR pl) → K (some (ti 0)) (sh, M2, nx, zl))
    (k1 : ∀ M2 : FM, m8F M M2 → dtP f (lf IR) fg B F A n pl (kdF IR pl) → (∀ i : Int, 0 ≤ i → i < F → M2 263 i = fsF f B fg i) → K (some (ti 1)) (sh, M2, nx, zl)) : fm_Y (d + 7) 369 [.ref 168] (sh, M, nx, zl) K := by
  have nr := h8.1.1.2.1
  have hB := h8.1.1.1.2.1
  have Fr := h8.1.1.1.2.2.1
  refine m369 [fx 168] ?_
  have L53 : ∀ (G : Nat) (j : Int) (M1 : FM), (n + 1 - j).toNat < G → 1 ≤ j → j ≤ n + 1 → m8F M M1 → saD B F (lf IR) pl (kdF IR pl) n.toNat ≤ 4194304 → (∀ i : Int, 0 ≤ i → i < F → 0 ≤ fsF f B fg i) → (∀ i : Int, 0 ≤ i → i < F → M1 263 i = fsF f B fg i) → (∀ i : Int, 1 ≤ i → i < j → kdF IR pl i = 2 → fdP f (lf IR) (fsF f B fg) B A (pl i)) → fm_X (d + 6) kd369 53 [some (fx 168), some (ti j)] [] (sh, M1, nx, zl) K := by
    intro G
    induction G with
    | zero => intro j M1 q; omega
    | succ G ih =>
      intro j M1 q1 q2 q3 F1 c1 c2 kp ok
      have h81 := s8M_to h8 F1
      have nr1 := h81.1.1.2.1
      refine s369_53 (d + 6) K _ _ _ ?_
      refine ⟨by omega, fun w => ⟨Or.inr rfl, k1 M1 F1 ⟨c1, c2, fun i i0 i1 => ok i i0 (by omega)⟩ kp⟩, fun w => ?_⟩
      obtain ⟨ap, hd0⟩ := nd_ok hB.2.1 h8.1.2.1 (show 1 ≤ j by omega) (show j ≤ n by omega)
      have hT := hd0.2.1
      have h16 := hd0.1
      have kr : 1 ≤ kdT (le (lf IR) (pl j) 2) ∧ kdT (le (lf IR) (pl j) 2) ≤ 7 := by
        unfold kdT
        split <;> omega
      refine whereIs_Y h81.1 (by omega) ?_
      refine kindAt_Y h81.1.1.1 (by omega) hT ?_
      refine ⟨by omega, fun w2 => ?_, fun w2 => ?_⟩
      · refine ih (j + 1) M1 (by omega) (by omega) (by omega) F1 c1 c2 kp (fun i i0 i1 => ?_)
        by_cases c : i < j
        · exact ok i i0 c
        · rw [show i = j by omega]
          intro z
          exact absurd z w2
      · refine isData_Y h81 (by omega) w2 kp (fun M2 z F2 e2 hz => ?_)
        have F12 := m8_trans F1 F2
        rcases hz.symm with ⟨z1, z2⟩ | ⟨z1, z2⟩
        · rw [z1]
          exact ⟨by omega, fun q => absurd rfl q, fun _ => ⟨Or.inl rfl, k0 M2 F12 (fun q => z2 (q.2.2 j (by omega) (by omega) w2))⟩⟩
        · rw [z1]
          refine ⟨by omega, fun _ => ?_, fun q => by omega⟩
          refine ih (j + 1) M2 (by omega) (by omega) (by omega) F12 c1 c2 (by rw [e2]; exact kp) (fun i i0 i1 => ?_)
          by_cases c : i < j
          · exact ok i i0 c
          · rw [show i = j by omega]
            intro _
            exact z2
  have L15 : ∀ (G : Nat) (i : Int) (M1 : FM), (F - i).toNat < G → 0 ≤ i → i ≤ F → m8F M M1 → saD B F (lf IR) pl (kdF IR pl) n.toNat ≤ 4194304 → (∀ j : Int, 0 ≤ j → j < i → 0 ≤ fsF f B fg j) → (∀ j : Int, 0 ≤ j → j < i → M1 263 j = fsF f B fg j) → fm_X (d + 6) kd369 15 [some (fx 168), some (ti i)] [] (sh, M1, nx, zl) K := by
    intro G
    induction G with
    | zero => intro i M1 q; omega
    | succ G ih =>
      intro i M1 q1 q2 q3 F1 c1 ok kp
      have h81 := s8M_to h8 F1
      have Fr1 := h81.1.1.1.2.2.1
      refine s369_15 (d + 6) K _ _ _ ?_
      refine ⟨by omega, fun w => ?_, fun w => ?_⟩
      · exact L53 _ 1 M1 (Nat.lt_succ_self _) (by omega) (by omega) F1 c1 (fun j j0 j1 => ok j j0 (by omega)) (fun j j0 j1 => kp j j0 (by omega)) (fun i i0 i1 => by omega)
      refine readFragment_Y h81 (by omega) (fun M2 F2 _ fr => ?_)
      refine ⟨by omega, ?_⟩
      obtain ⟨P, gP⟩ : ∃ P : FM, P = pq M2 263 i (fsF f B fg i) := ⟨_, rfl⟩
      have F12 := m8_trans F1 (m8_rb F2)
      have e63 : M2 263 = M1 263 := F2.1 263 (by omega) (by omega) (by omega)
      have FP : m8F M P := by
        rw [gP]
        exact ⟨fun c c1 c2 c3 c4 => (pq_o _ _ _ c3).trans (F12.1 c c1 c2 c3 c4), fun i a b => by rw [pq_o _ _ _ (by omega)]; exact F12.2 i a b⟩
      have pi : P 263 i = fsF f B fg i := by rw [gP, pq_at]
      have T1 : (o_al 0 (o_get 12 122 122 (o_il 1 (o_iald (o_if .ge (o_inc 1 1 (fW (d + 6) kd369 K 15)) (o_ic 0 (o_zret K)))))) : FC) [some (fx 168), some (ti i)] [] (sh, P, nx, zl) := by
        refine ⟨by omega, ?_⟩
        rw [pi]
        refine ⟨by omega, fun w2 => ?_, fun w2 => ⟨Or.inl rfl, k0 P FP (fun q => by have := q.2.1 i q2 (by omega); omega)⟩⟩
        refine ih (i + 1) P (by omega) (by omega) (by omega) FP c1 (fun j j0 j1 => ?_) (fun j j0 j1 => ?_)
        · by_cases c : j < i
          · exact ok j j0 c
          · rw [show j = i by omega]
            omega
        · by_cases c : j = i
          · rw [c]
            exact pi
          · rw [gP, pq_ne _ _ _ _ c, e63]
            exact kp j j0 (by omega)
      rw [gP] at T1
      exact T1
  refine allData_Y h8.1 (fun M1 F1 sr => ?_)
  refine ⟨by omega, fun w => ?_, fun w => ⟨Or.inl rfl, k0 M1 (m8_of F1) (fun q => by have := q.1; omega)⟩⟩
  exact L15 _ 0 M1 (Nat.lt_succ_self _) (by omega) (by omega) (m8_of F1) (by omega) (fun j j0 j1 => by omega) (fun j j0 j1 => by omega)
end MDATA
