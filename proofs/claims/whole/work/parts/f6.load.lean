/-! MOUNTING: rows of pieces; the class -/
/-- a piece's bytes -/
noncomputable def pbS (f : Int → Int) (p : Int) : Option (List Int) := if 32768 ≤ le f p 2 then some (sl f (p + 2) (le f p 2 % 32768).toNat) else (match unS f (p + 2) (le f p 2 % 32768) 8192 with
  | none => none
  | some o => if o.length = 0 then none else some o)
/-- pieces from p to m: all but the last one full, cap of them at the most; R: their bytes, S: where each begins -/
noncomputable def rdG (f : Int → Int) (a m : Int) (cap : Nat) : Nat → Int → List Int → List Int → Option (List Int × List Int)
  | 0, _, _, _ => none
  | g + 1, p, R, S => if m ≤ p then some (R, S) else if R.length ≠ 8192 * S.length ∨ cap ≤ S.length then none else match pbS f p with
    | none => none
    | some o => rdG f a m cap g (p + 2 + le f p 2 % 32768) (R ++ o) (S ++ [p - a])
noncomputable def rdS (f : Int → Int) (a m : Int) (cap : Nat) : Option (List Int × List Int) := rdG f a m cap (m.toNat + 1) a [] []
def prS (sh : Nat → Option Shp) (pr rr rb st nb : Nat) : Prop := (shp sh pr = some (.inr (7, [some (some rr), some (some st), none])) ∧ rowS sh rr rb nb ∧ shp sh st = some (.inl (.int, 9))) ∧ ((100 ≤ pr ∧ pr ≤ 128) ∧ (100 ≤ rr ∧ rr ≤ 128) ∧ (100 ≤ rb ∧ rb ≤ 128) ∧ (100 ≤ st ∧ st ≤ 128)) ∧ (pr ≠ rr ∧ pr ≠ rb ∧ pr ≠ st ∧ rr ≠ rb ∧ rr ≠ st ∧ rb ≠ st)
def prV (M : FM) (pr rr rb st : Nat) (R S : List Int) (e : Int) : Prop := (M rr 1 = R.length ∧ sl (M rb) 0 R.length = R) ∧ M pr 2 = S.length ∧ (∀ i : Nat, i < S.length → M st i = (S[i]?).getD 0) ∧ M st S.length = e
def ldF (M M2 : FM) (pr rr rb st : Nat) : Prop := ∀ c : Nat, c ≠ pr → c ≠ rr → c ≠ rb → c ≠ st → (c < 129 ∨ 150 < c) → c ≠ 165 → M2 c = M c
/-- what unpacking wants of the cells that never change -/
def uFx (M : FM) : Prop := (∀ i : Int, 0 ≤ i → i < 19 → M 1 i = tel i) ∧ cdV M 157 152 fxA 288 ∧ cdV M 164 159 fxB 32
theorem uFx_to {M M2 : FM} (h : uFx M) (e : ∀ c : Nat, (c = 1 ∨ 150 < c ∧ c < 165) → M2 c = M c) : uFx M2 := by
  obtain ⟨h1, h2, h3⟩ := h
  refine ⟨fun i i0 i1 => by rw [e 1 (by omega)]; exact h1 i i0 i1, cdV_to h2 (e 157 (by omega)) (e 152 (by omega)), cdV_to h3 (e 164 (by omega)) (e 159 (by omega))⟩
section LOAD
variable {d nx zl : Nat} {K : Option TV → FH → Prop} {sh : Nat → Option Shp} {M : FM} {pr rr rb st nb : Nat}
theorem pclear_Y (hp : prS sh pr rr rb st nb) (k : ∀ M2 : FM, (∀ c : Nat, c ≠ pr → c ≠ rr → c ≠ st → M2 c = M c) → M2 pr 2 = 0 → M2 rr 1 = 0 → M2 st 0 = 0 → K none (sh, M2, nx, zl)) : fm_Y (d + 2) 55 [.ref pr] (sh, M, nx, zl) K := by
  obtain ⟨⟨h1, h2, h3⟩, ⟨⟨a1, a2⟩, ⟨b1, b2⟩, ⟨c1, c2⟩, ⟨e1, e2⟩⟩, ⟨n1, n2, n3, n4, n5, n6⟩⟩ := hp
  refine m55 [gr pr] ?_
  refine ⟨_, h1, ?_⟩
  have hcl := clear_Y (d := d) (nx := nx) (sl := zl) (M := M) (sh := sh) (a := rr) (b := rb) (n := nb) (f := M rb) (s := M rr 1) (o := M rr 2) (K := fun w h2 => o_al 0 (o_ic 0 (o_put 7 2 2 (o_al 0 (o_get 7 1 1 (o_ic 0 (o_ic 0 (o_iast (o_ret K)))))))) [some (gr pr)] (w.toList ++ []) h2) h2 ?_
  · rw [rowW_self] at hcl
    exact ⟨⟨_, h2.1.1⟩, hcl⟩
  · refine ⟨_, ⟨by omega, h1, rfl⟩, ?_⟩
    refine ⟨_, h1, ?_⟩
    refine ⟨9, h3, by omega, ?_⟩
    refine k _ (fun c q1 q2 q3 => ?_) ?_ ?_ ?_
    · rw [um_ne q3, um_ne q1]
      by_cases e : c = rb
      · rw [e, rowW_b (fun z => n4 z)]
      · rw [rowW_o q2 e]
    · rw [um_ne n3, um_at, ur_at]
    · rw [um_ne n5, um_ne (fun z => n1 z.symm), rowW_1]
    · rw [um_at, ur_at]
theorem app_get {S : List Int} {x : Int} (i : Nat) : (S ++ [x])[i]? = if i < S.length then S[i]? else if i = S.length then some x else none := by
  by_cases c : i < S.length
  · rw [if_pos c, List.getElem?_append_left c]
  · rw [if_neg c, List.getElem?_append_right (by omega)]
    by_cases c2 : i = S.length
    · rw [if_pos c2, c2, Nat.sub_self]
      rfl
    · rw [if_neg c2]
      obtain ⟨j, hj⟩ : ∃ j, i - S.length = j + 1 := ⟨i - S.length - 1, by omega⟩
      rw [hj]
      rfl
theorem load_Y {a m : Int} {cap : Nat} (hp : prS sh pr rr rb st nb) (hnb : (nb : Int) = 8192 * cap) (hcap : cap ≤ 8) (hs : 0 ≤ M 98 1 ∧ M 98 1 ≤ 131072) (hfx : uFx M) (ha : 0 ≤ a ∧ a ≤ m) (hm : m ≤ M 98 1) (hpc : pcs (M 99) a m)
    (k : ∀ (z : Int) (M2 : FM), ldF M M2 pr rr rb st → (z = 1 ∧ (∃ R S, rdS (M 99) a m cap = some (R, S) ∧ prV M2 pr rr rb st R S (m - a)) ∨ z = 0 ∧ rdS (M 99) a m cap = none) → K (some (ti z)) (sh, M2, nx, zl)) : fm_Y (d + 5) 138 [.ref pr, .ref 98, .int (Int32.ofInt a), .int (Int32.ofInt m), .ref 129] (sh, M, nx, zl) K := by
  have hp0 := hp
  obtain ⟨⟨h1, h2, h3⟩, ⟨⟨a1, a2⟩, ⟨b1, b2⟩, ⟨c1, c2⟩, ⟨e1, e2⟩⟩, ⟨n1, n2, n3, n4, n5, n6⟩⟩ := hp
  have h2r := h2.1.1
  have h2b := h2.1.2
  refine m138 [gr pr, gr 98, ti a, ti m, gr 129] ?_
  refine ⟨⟨_, h1⟩, ?_⟩
  refine pclear_Y hp0 (fun M1 x1 x2 x3 x4 => ?_)
  have L : ∀ (g : Nat) (p : Int) (R S : List Int) (M2 : FM) (y7 y8 y9 : Option TV), m - p < g → 0 ≤ p → p ≤ m → a ≤ p → pcG (M 99) m g p → rdS (M 99) a m cap = rdG (M 99) a m cap g p R S → ldF M M2 pr rr rb st → prV M2 pr rr rb st R S (p - a) → R.length ≤ 8192 * S.length → S.length ≤ cap → fm_X (d + 4) kd138 10 [some (gr pr), some (gr 98), some (ti a), some (ti m), some (gr 129), some (ti p), some (ti S.length), y7, y8, y9] [] (sh, M2, nx, zl) K := by
    intro g
    induction g with
    | zero => intro p R S M2 y7 y8 y9 d1; omega
    | succ g ih =>
      intro p R S M2 y7 y8 y9 d1 d2 d3 d4 d5 d6 d7 d8 d9 d10
      obtain ⟨⟨v1, v2⟩, v3, v4, v5⟩ := id d8
      have e98 : M2 98 = M 98 := d7 98 (by omega) (by omega) (by omega) (by omega) (by omega) (by omega)
      have e99 : M2 99 = M 99 := d7 99 (by omega) (by omega) (by omega) (by omega) (by omega) (by omega)
      have er : rdG (M 99) a m cap (g + 1) p R S = if m ≤ p then some (R, S) else if R.length ≠ 8192 * S.length ∨ cap ≤ S.length then none else match pbS (M 99) p with
          | none => none
          | some o => rdG (M 99) a m cap g (p + 2 + le (M 99) p 2 % 32768) (R ++ o) (S ++ [p - a]) := rfl
      rw [er] at d6
      refine s138_10 (d + 4) K _ _ _ ?_
      refine ⟨_, h1, ?_⟩
      refine ⟨_, _, h3, ?_⟩
      have E223 : p = m → b138_223 (d + 4) (fW (d + 4) kd138 K) K [some (gr pr), some (gr 98), some (ti a), some (ti m), some (gr 129), some (ti p), some (ti S.length), y7, y8, y9] [] (sh, M2, nx, zl) := by
        intro h
        rw [if_pos (by omega)] at d6
        refine ⟨by omega, fun w => absurd h w, fun _ => ⟨Or.inr rfl, k 1 M2 d7 (Or.inl ⟨rfl, R, S, d6, ?_⟩)⟩⟩
        rw [← h]
        exact d8
      refine ⟨by omega, fun w => by omega, fun w => ?_⟩
      refine ⟨by omega, fun w2 => E223 (by omega), fun w2 => ?_⟩
      rw [if_neg (by omega)] at d6
      refine ⟨_, h1, ?_⟩
      refine ⟨_, h2r, ?_⟩
      refine ⟨by omega, fun w3 => ?_, fun w3 => ?_⟩
      · rw [if_pos (Or.inl (by omega))] at d6
        exact ⟨Or.inl rfl, k 0 M2 d7 (Or.inr ⟨rfl, d6⟩)⟩
      refine ⟨_, h1, ?_⟩
      refine ⟨_, h2r, ?_⟩
      refine ⟨_, h1, ?_⟩
      refine ⟨_, h2r, ?_⟩
      refine ⟨_, _, h2b, ?_⟩
      refine ⟨by omega, fun w4 => ?_, fun w4 => ?_⟩
      · have hRS : R.length = 8192 * S.length := by omega
        have hcp : S.length < cap := by omega
        rw [if_neg (by omega)] at d6
        -- the piece is one
        have hpe : pcG (M 99) m g (pE (M 99) p m) := by
          rcases d5 with z | z
          · omega
          · exact z.2.2
        have hpos : pE (M 99) p m = p + 2 + le (M 99) p 2 % 32768 ∧ (p + 2 ≤ m ∧ 1 ≤ le (M 99) p 2 % 32768 ∧ le (M 99) p 2 % 32768 ≤ 8192 ∧ p + 2 + le (M 99) p 2 % 32768 ≤ m) := by
          by_cases c : p + 2 ≤ m ∧ 1 ≤ le (M 99) p 2 % 32768 ∧ le (M 99) p 2 % 32768 ≤ 8192 ∧ p + 2 + le (M 99) p 2 % 32768 ≤ m
          · exact ⟨if_pos c, c⟩
          · have e : pE (M 99) p m = -1 := if_neg c
            rw [e] at hpe
            cases g with
            | zero => exact absurd hpe id
            | succ g =>
              rcases hpe with z | z
              · omega
              · omega
        obtain ⟨hE, hq1, hq2, hq3, hq4⟩ := hpos
        rw [hE] at hpe
        refine ⟨⟨_, rfl⟩, ?_⟩
        refine two_Y (rowS_98 sh) (by omega) (by rw [e98]; omega) (by rw [e98]; omega) ?_
        have e2 : r2 (M2 99) (M2 98 1) p = le (M 99) p 2 := by
          rw [e98, e99]
          exact if_pos (by omega)
        rw [e2]
        have lr := le_nn (M 99) 2 p
        have lr2 := le_lt2 (M 99) p
        obtain ⟨hd, ghd⟩ : ∃ hd : Int, hd = le (M 99) p 2 := ⟨_, rfl⟩
        rw [← ghd] at hq2 hq3 hq4 hpe d6 lr lr2 ⊢
        -- behind the piece's bytes
        have B157 : ∀ (M3 : FM) (o : List Int), pbS (M 99) p = some o → 1 ≤ o.length → o.length ≤ 8192 → ldF M M3 pr rr rb st → prV M3 pr rr rb st R S (p - a) → sl (M3 rb) 0 (R.length + o.length) = R ++ o → b138_157 (d + 4) (fW (d + 4) kd138 K) K [some (gr pr), some (gr 98), some (ti a), some (ti m), some (gr 129), some (ti p), some (ti S.length), some (ti hd), some (ti (hd % 32768)), some (ti o.length)] [] (sh, M3, nx, zl) := by
          intro M3 o f1 f2 f2b f3 f4 f5
          obtain ⟨⟨w1, w2⟩, w3, w4, w5⟩ := f4
          rw [f1] at d6
          have d6' : rdS (M 99) a m cap = rdG (M 99) a m cap g (p + 2 + hd % 32768) (R ++ o) (S ++ [p - a]) := d6
          refine ⟨by omega, fun w6 => ?_, fun w6 => by omega⟩
          refine ⟨_, h1, ?_⟩
          refine ⟨_, h2r, ?_⟩
          refine ⟨_, ⟨by omega, h2r, rfl⟩, ?_⟩
          refine ⟨_, ⟨by omega, h1, rfl⟩, ?_⟩
          refine ⟨_, h1, ?_⟩
          refine ⟨_, h1, ?_⟩
          refine ⟨_, h1, ?_⟩
          refine ⟨9, h3, by omega, ?_⟩
          obtain ⟨R1, g1⟩ : ∃ R1 : FM, R1 = um M3 rr (ur (M3 rr) 1 (M3 rr 1 + o.length)) := ⟨_, rfl⟩
          obtain ⟨R2, g2⟩ : ∃ R2 : FM, R2 = um R1 pr (ur (R1 pr) 2 (S.length + 1)) := ⟨_, rfl⟩
          have q2 : R2 pr 2 = S.length + 1 := by rw [g2, um_at, ur_at]
          have q3 : R2 st = M3 st := by rw [g2, um_ne (fun z => n3 z.symm), g1, um_ne (fun z => n5 z.symm)]
          refine ⟨9, h3, ?_, ?_⟩
          · rw [← g1, ← g2, q2]
            omega
          obtain ⟨R3, g3⟩ : ∃ R3 : FM, R3 = um R2 st (ur (R2 st) (R2 pr 2) (R2 st S.length + 2 + hd % 32768)) := ⟨_, rfl⟩
          have hlo : (R ++ o).length = R.length + o.length := List.length_append
          have hls : (S ++ [p - a]).length = S.length + 1 := by simp
          have zz := ih (p + 2 + hd % 32768) (R ++ o) (S ++ [p - a]) R3 (some (ti hd)) (some (ti (hd % 32768))) (some (ti o.length)) (by omega) (by omega) hq4 (by omega) hpe d6' (fun c q4 q5 q6 q7 q8 q9 => ?_) ⟨⟨?_, ?_⟩, ?_, fun i hi => ?_, ?_⟩ (by omega) (by omega)
          · rw [show p + 2 + hd % 32768 = p + (2 + hd % 32768) by omega, hls, g3, g2, g1, show ((S.length + 1 : Nat) : Int) = (S.length : Int) + 1 by omega] at zz
            exact zz
          · rw [g3, um_ne q7, g2, um_ne q4, g1, um_ne q5]
            exact f3 c q4 q5 q6 q7 q8 q9
          · rw [g3, um_ne n5, g2, um_ne (fun z => n1 z.symm), g1, um_at, ur_at, hlo, w1]
            omega
          · rw [g3, um_ne n6, g2, um_ne (fun z => n2 z.symm), g1, um_ne (fun z => n4 z.symm), hlo]
            exact f5
          · rw [g3, um_ne n3, q2, hls]
            omega
          · rw [hls] at hi
            rw [g3, um_at, q2, q3, app_get]
            by_cases ci : i < S.length
            · rw [if_pos ci, ur_ne (by omega)]
              exact w4 i ci
            · have ei : i = S.length := by omega
              rw [if_neg ci, if_pos ei, ei, ur_ne (by omega), w5]
              rfl
          · rw [g3, um_at, q2, q3, hls, show ((S.length + 1 : Nat) : Int) = (S.length : Int) + 1 by omega, ur_at, w5]
            omega
        have eb : pbS (M 99) p = if 32768 ≤ hd then some (sl (M 99) (p + 2) (hd % 32768).toNat) else (match unS (M 99) (p + 2) (hd % 32768) 8192 with
            | none => none
            | some o => if o.length = 0 then none else some o) := by
          rw [ghd]
          rfl
        refine ⟨by omega, fun w5 => ?_, fun w5 => ?_⟩
        · rw [if_pos w5] at eb
          refine ⟨_, rfl, ?_⟩
          refine ⟨_, h1, ?_⟩
          refine ⟨_, h2r, ?_⟩
          refine ⟨_, h1, ?_⟩
          refine ⟨_, h2r, ?_⟩
          refine ⟨.byte, 131072, nb, ⟨rfl, h2b⟩, by omega, ⟨trivial, by decide, by omega⟩, ?_⟩
          have hl : (sl (M 99) (p + 2) (hd % 32768).toNat).length = (hd % 32768).toNat := sl_len _ _ _
          have zz := B157 (um M2 rb (cpf (M2 99) (M2 rb) (p + 2) (M2 rr 1) (hd % 32768))) _ eb (by omega) (by omega) (fun c q4 q5 q6 q7 q8 q9 => by rw [um_ne q6]; exact d7 c q4 q5 q6 q7 q8 q9) ⟨⟨?_, ?_⟩, ?_, fun i hi => ?_, ?_⟩ ?_
          · rw [hl, show (((hd % 32768).toNat : Nat) : Int) = hd % 32768 by omega] at zz
            exact zz
          · rw [um_ne n4]
            exact v1
          · rw [um_at, sl_cpf_lo (by omega)]
            exact v2
          · rw [um_ne n2]
            exact v3
          · rw [um_ne (fun z => n6 z.symm)]
            exact v4 i hi
          · rw [um_ne (fun z => n6 z.symm)]
            exact v5
          · rw [um_at, hl, sl_add, sl_cpf_lo (by omega), v2, show (0 : Int) + (R.length : Int) = M2 rr 1 by omega, sl_cpf (by omega), e99]
        · rw [if_neg (by omega)] at eb
          refine ⟨_, rfl, ?_⟩
          refine ⟨_, h1, ?_⟩
          refine ⟨_, h2r, ?_⟩
          refine ⟨_, h1, ?_⟩
          refine ⟨_, h2r, ?_⟩
          refine ⟨⟨_, rfl⟩, ?_⟩
          have hfx2 : uFx M2 := uFx_to hfx (fun c hc => d7 c (by omega) (by omega) (by omega) (by omega) (by omega) (by omega))
          have keep : ∀ M3 : FM, unF M2 M3 rb (M2 rr 1) 8192 → ldF M M3 pr rr rb st := fun M3 hu c q4 q5 q6 q7 q8 q9 => (hu.1 c (by omega) q6 (by omega) q9).trans (d7 c q4 q5 q6 q7 q8 q9)
          have keep2 : ∀ M3 : FM, unF M2 M3 rb (M2 rr 1) 8192 → prV M3 pr rr rb st R S (p - a) := by
            intro M3 hu
            refine ⟨⟨by rw [hu.1 rr (by omega) n4 (by omega) (by omega)]; exact v1, ?_⟩, by rw [hu.1 pr (by omega) n2 (by omega) (by omega)]; exact v3, by rw [hu.1 st (by omega) (fun z => n6 z.symm) (by omega) (by omega)]; exact v4, by rw [hu.1 st (by omega) (fun z => n6 z.symm) (by omega) (by omega)]; exact v5⟩
            rw [← v2, sl_len]
            exact sl_congr _ _ _ (fun i hi => by rw [hu.2 _ (by omega)])
          refine unpack_Y (d := d) (nS := 131072) (nM := nb) rfl h2b (by omega) (by omega) (by omega) (by omega) (by omega) (by omega) (by omega) hfx2.1 hfx2.2.1 hfx2.2.2 (fun hu M3 hF => ?_) (fun o hu M3 hF hsl => ?_)
          · rw [e99] at hu
            rw [hu] at eb
            have eb' : pbS (M 99) p = none := eb
            rw [eb'] at d6
            refine ⟨by omega, fun w6 => by omega, fun w6 => ?_⟩
            exact ⟨Or.inl rfl, k 0 M3 (keep M3 hF) (Or.inr ⟨rfl, d6⟩)⟩
          · rw [e99] at hu
            rw [hu] at eb
            have eb' : pbS (M 99) p = if o.length = 0 then none else some o := eb
            by_cases c0 : o.length = 0
            · rw [if_pos c0] at eb'
              rw [eb'] at d6
              refine ⟨by omega, fun w6 => by omega, fun w6 => ?_⟩
              exact ⟨Or.inl rfl, k 0 M3 (keep M3 hF) (Or.inr ⟨rfl, d6⟩)⟩
            · rw [if_neg c0] at eb'
              have ho : o.length ≤ 8192 := by
                have z := unS_len hu
                omega
              refine B157 M3 o eb' (by omega) ho (keep M3 hF) (keep2 M3 hF) ?_
              have z2 := (keep2 M3 hF).1.2
              rw [sl_add, z2, show (0 : Int) + (R.length : Int) = M2 rr 1 by omega, hsl]
      · rw [if_pos (Or.inr (by omega))] at d6
        exact ⟨Or.inl rfl, k 0 M2 d7 (Or.inr ⟨rfl, d6⟩)⟩
  have zz := L (m.toNat + 1) a [] [] M1 none none none (by omega) ha.1 ha.2 (by omega) hpc rfl (fun c q4 q5 q6 q7 _ _ => x1 c q4 q5 q7) ⟨⟨x3, rfl⟩, x2, (fun i hi => absurd hi (Nat.not_lt_zero i)), ?_⟩ (Nat.zero_le _) (Nat.zero_le _)
  · exact zz
  · rw [show a - a = 0 by omega]
    exact x4
end LOAD
