/-! MOUNTING: rows of pieces; the reference -/
def rrS (sh : Nat → Option Shp) (r b st sz nb : Nat) : Prop := (shp sh r = some (.inr (15, [some (some b), none, none, some (some st), some (some sz)])) ∧ shp sh b = some (.inl (.byte, nb)) ∧ shp sh st = some (.inl (.int, 8)) ∧ shp sh sz = some (.inl (.int, 8))) ∧ ((238 ≤ r ∧ r ≤ 257) ∧ (238 ≤ b ∧ b ≤ 257) ∧ (238 ≤ st ∧ st ≤ 257) ∧ (238 ≤ sz ∧ sz ≤ 257)) ∧ (r ≠ b ∧ r ≠ st ∧ r ≠ sz ∧ b ≠ st ∧ b ≠ sz ∧ st ≠ sz)
def rrV (M : FM) (r b st sz : Nat) (R S : List Int) : Prop := (M r 1 = R.length ∧ sl (M b) 0 R.length = R) ∧ M r 2 = S.length ∧ (∀ i : Nat, i < S.length → M st i = (S[i]?).getD 0) ∧ (∀ i : Nat, i < S.length → M sz i = min 8192 ((R.length : Int) - 8192 * i))
def rdF (M M2 : FM) (r b st sz : Nat) : Prop := (∀ c : Nat, c ≠ 168 → c ≠ r → c ≠ b → c ≠ st → c ≠ sz → c ≠ 258 → (c < 195 ∨ 210 < c) → M2 c = M c) ∧ ∀ i : Int, (i < 50 ∨ 57 < i) → M2 168 i = M 168 i
section MROW
variable {d nx zl : Nat} {K : Option TV → FH → Prop} {sh : Nat → Option Shp} {M : FM} {r b st sz nb : Nat}
theorem readRow_Y {a m : Int} {cap : Nat} (hp : rrS sh r b st sz nb) (hnb : (nb : Int) = 8192 * cap) (hcap : cap ≤ 8) (ha : 0 ≤ a ∧ a ≤ m) (hm : m ≤ 131072) (hpc : pcs (M 211) a m)
    (k : ∀ (z : Int) (M2 : FM), rdF M M2 r b st sz → (z = 1 ∧ (∃ R S, rdS (M 211) a m cap = some (R, S) ∧ rrV M2 r b st sz R S) ∨ z = 0 ∧ rdS (M 211) a m cap = none) → K (some (ti z)) (sh, M2, nx, zl)) : fm_Y (d + 5) 328 [.ref 168, .ref r, .int (Int32.ofInt a), .int (Int32.ofInt m)] (sh, M, nx, zl) K := by
  obtain ⟨⟨h1, h2, h3, h4⟩, ⟨⟨a1, a2⟩, ⟨b1, b2⟩, ⟨c1, c2⟩, ⟨e1, e2⟩⟩, ⟨n1, n2, n3, n4, n5, n6⟩⟩ := hp
  refine m328 [fx 168, gr r, ti a, ti m] ?_
  refine ⟨_, ⟨by omega, h1, rfl⟩, ?_⟩
  refine ⟨_, ⟨by omega, h1, rfl⟩, ?_⟩
  obtain ⟨M1, gM1⟩ : ∃ M1 : FM, M1 = um (um M r (ur (M r) 1 0)) r (ur (um M r (ur (M r) 1 0) r) 2 0) := ⟨_, rfl⟩
  have x1 : ∀ c : Nat, c ≠ r → M1 c = M c := fun c hc => by rw [gM1, um_ne hc, um_ne hc]
  have x2 : M1 r 1 = 0 := by rw [gM1, um_at, ur_ne (by omega), um_at, ur_at]
  have x3 : M1 r 2 = 0 := by rw [gM1, um_at, ur_at]
  have L : ∀ (g : Nat) (p : Int) (R S : List Int) (M2 : FM) (y5 y6 y7 y8 y9 : Option TV), m - p < g → 0 ≤ p → p ≤ m → a ≤ p → pcG (M 211) m g p → rdS (M 211) a m cap = rdG (M 211) a m cap g p R S → rdF M M2 r b st sz → rrV M2 r b st sz R S → (p < m → R.length = 8192 * S.length) → R.length ≤ 8192 * S.length → S.length ≤ cap → fm_X (d + 4) kd328 13 [some (fx 168), some (gr r), some (ti a), some (ti m), some (ti p), y5, y6, y7, y8, y9] [] (sh, M2, nx, zl) K := by
    intro g
    induction g with
    | zero => intro p R S M2 y5 y6 y7 y8 y9 d1; omega
    | succ g ih =>
      intro p R S M2 y5 y6 y7 y8 y9 d1 d2 d3 d4 d5 d6 d7 d8 d9 d9b d10
      obtain ⟨⟨v1, v2⟩, v3, v4, v5⟩ := id d8
      have e211 : M2 211 = M 211 := d7.1 211 (by omega) (by omega) (by omega) (by omega) (by omega) (by omega) (by omega)
      have er : rdG (M 211) a m cap (g + 1) p R S = if m ≤ p then some (R, S) else if R.length ≠ 8192 * S.length ∨ cap ≤ S.length then none else match pbS (M 211) p with
          | none => none
          | some o => rdG (M 211) a m cap g (p + 2 + le (M 211) p 2 % 32768) (R ++ o) (S ++ [p - a]) := rfl
      rw [er] at d6
      refine s328_13 (d + 4) K _ _ _ ?_
      refine ⟨by omega, fun w => ?_, fun w => ?_⟩
      · rw [if_pos (by omega)] at d6
        exact ⟨Or.inr rfl, k 1 M2 d7 (Or.inl ⟨rfl, R, S, d6, d8⟩)⟩
      rw [if_neg (by omega)] at d6
      have hRS := d9 (by omega)
      have hpe : pcG (M 211) m g (pE (M 211) p m) := by
        rcases d5 with z | z
        · omega
        · exact z.2.2
      have hpos : pE (M 211) p m = p + 2 + le (M 211) p 2 % 32768 ∧ (p + 2 ≤ m ∧ 1 ≤ le (M 211) p 2 % 32768 ∧ le (M 211) p 2 % 32768 ≤ 8192 ∧ p + 2 + le (M 211) p 2 % 32768 ≤ m) := by
        by_cases c : p + 2 ≤ m ∧ 1 ≤ le (M 211) p 2 % 32768 ∧ le (M 211) p 2 % 32768 ≤ 8192 ∧ p + 2 + le (M 211) p 2 % 32768 ≤ m
        · exact ⟨if_pos c, c⟩
        · have e : pE (M 211) p m = -1 := if_neg c
          rw [e] at hpe
          cases g with
          | zero => exact absurd hpe id
          | succ g =>
            rcases hpe with z | z
            · omega
            · omega
      obtain ⟨hE, hq1, hq2, hq3, hq4⟩ := hpos
      rw [hE] at hpe
      refine t2_Y (by omega) (fun _ => ?_)
      refine t2_Y (by omega) (fun _ => ?_)
      rw [e211]
      have lr := le_nn (M 211) 2 p
      have lr2 := le_lt2 (M 211) p
      obtain ⟨hd, ghd⟩ : ∃ hd : Int, hd = le (M 211) p 2 := ⟨_, rfl⟩
      rw [← ghd] at hq2 hq3 hq4 hpe d6 lr lr2 ⊢
      have eb : pbS (M 211) p = if 32768 ≤ hd then some (sl (M 211) (p + 2) (hd % 32768).toNat) else (match unS (M 211) (p + 2) (hd % 32768) 8192 with
          | none => none
          | some o => if o.length = 0 then none else some o) := by
        rw [ghd]
        rfl
      -- from the piece's bytes on: pl 1 where they lie in the image, else in a row of their own
      have B85 : ∀ (pl gt : Int) (M3 : FM), (pl = 0 ∨ pl = 1) → (pl = 1 → gt = hd % 32768) → (-1 ≤ gt ∧ gt ≤ 8192) → rdF M M3 r b st sz → rrV M3 r b st sz R S → (gt < 1 → pbS (M 211) p = none) → (∀ o : List Int, (o.length : Int) = gt → 1 ≤ gt → sl (if pl = 1 then M3 211 else M3 258) (if pl = 1 then p + 2 else 0) gt.toNat = o → pbS (M 211) p = some o) → b328_85 (d + 4) (fW (d + 4) kd328 K) K [some (fx 168), some (gr r), some (ti a), some (ti m), some (ti p), some (ti (hd % 32768)), some (ti pl), y7, y8, y9] [ti gt] (sh, M3, nx, zl) := by
        intro pl gt M3 hpl hpg hgt f3 f4 fN fO
        obtain ⟨⟨w1, w2⟩, w3, w4, w5⟩ := id f4
        have FAIL : rdS (M 211) a m cap = none → ∀ l : Int, b328_140 (d + 4) (fW (d + 4) kd328 K) K [some (fx 168), some (gr r), some (ti a), some (ti m), some (ti p), some (ti (hd % 32768)), some (ti pl), some (ti gt), some (ti l), y9] [] (sh, M3, nx, zl) := fun h l => ⟨Or.inl rfl, k 0 M3 f3 (Or.inr ⟨rfl, h⟩)⟩
        -- the last step: room, copying
        have B124 : ∀ l : Int, 1 ≤ gt → (p + 2 + hd % 32768 < m → gt = 8192) → b328_124 (d + 4) (fW (d + 4) kd328 K) K [some (fx 168), some (gr r), some (ti a), some (ti m), some (ti p), some (ti (hd % 32768)), some (ti pl), some (ti gt), some (ti l), y9] [] (sh, M3, nx, zl) := by
          intro l hg1 hfull
          refine ⟨_, h1, ?_⟩
          refine ⟨_, h1, ?_⟩
          refine ⟨_, _, h2, ?_⟩
          refine ⟨by omega, fun w6 => ?_, fun w6 => ?_⟩
          · have hcp : S.length < cap := by omega
            rw [if_neg (by omega)] at d6
            obtain ⟨o, go⟩ : ∃ o : List Int, o = sl (if pl = 1 then M3 211 else M3 258) (if pl = 1 then p + 2 else 0) gt.toNat := ⟨_, rfl⟩
            have ol : o.length = gt.toNat := by rw [go, sl_len]
            have ep := fO o (by omega) hg1 go.symm
            rw [ep] at d6
            have d6' : rdS (M 211) a m cap = rdG (M 211) a m cap g (p + 2 + hd % 32768) (R ++ o) (S ++ [p - a]) := d6
            have hlo : (R ++ o).length = R.length + o.length := List.length_append
            have hls : (S ++ [p - a]).length = S.length + 1 := by simp
            have C : ∀ (N : Nat) (j : Int) (M4 : FM), (gt - j).toNat < N → 0 ≤ j → j ≤ gt → (∀ c : Nat, c ≠ b → M4 c = M3 c) → (∀ q : Int, q < R.length → M4 b q = M3 b q) → (∀ q : Int, 0 ≤ q → q < j → M4 b (R.length + q) % 256 = (if pl = 1 then M3 211 else M3 258) ((if pl = 1 then p + 2 else 0) + q) % 256) → fm_X (d + 4) kd328 145 [some (fx 168), some (gr r), some (ti a), some (ti m), some (ti p), some (ti (hd % 32768)), some (ti pl), some (ti gt), some (ti l), some (ti j)] [] (sh, M4, nx, zl) K := by
              intro N
              induction N with
              | zero => intro j M4 i1; omega
              | succ N ihN =>
                intro j M4 i1 i2 i3 i4 i5 i6
                have u1 : M4 r 1 = R.length := by rw [i4 r n1]; exact w1
                have u2 : M4 r 2 = S.length := by rw [i4 r n1]; exact w3
                refine s328_145 (d + 4) K _ _ _ ?_
                refine ⟨by omega, fun w7 => ?_, fun w7 => ?_⟩
                · have ej : j = gt := by omega
                  rw [ej] at i6
                  refine ⟨_, h1, ?_⟩
                  refine ⟨_, h1, ?_⟩
                  refine ⟨8, h3, by omega, ?_⟩
                  obtain ⟨Q1, g1⟩ : ∃ Q1 : FM, Q1 = um M4 st (ur (M4 st) (M4 r 2) (p - a)) := ⟨_, rfl⟩
                  have q1r : Q1 r = M4 r := by rw [g1, um_ne n2]
                  refine ⟨_, h1, ?_⟩
                  refine ⟨_, h1, ?_⟩
                  refine ⟨8, h4, ?_, ?_⟩
                  · rw [← g1, q1r]
                    omega
                  obtain ⟨Q2, g2⟩ : ∃ Q2 : FM, Q2 = um Q1 sz (ur (Q1 sz) (Q1 r 2) gt) := ⟨_, rfl⟩
                  have q2r : Q2 r = M4 r := by rw [g2, um_ne n3, q1r]
                  refine ⟨_, h1, ?_⟩
                  refine ⟨_, ⟨by omega, h1, rfl⟩, ?_⟩
                  refine ⟨_, h1, ?_⟩
                  refine ⟨_, ⟨by omega, h1, rfl⟩, ?_⟩
                  obtain ⟨Q3, g3⟩ : ∃ Q3 : FM, Q3 = um Q2 r (ur (Q2 r) 2 (Q2 r 2 + 1)) := ⟨_, rfl⟩
                  obtain ⟨Q4, g4⟩ : ∃ Q4 : FM, Q4 = um Q3 r (ur (Q3 r) 1 (Q3 r 1 + gt)) := ⟨_, rfl⟩
                  have q41 : Q4 r 1 = R.length + gt := by rw [g4, um_at, ur_at, g3, um_at, ur_ne (by omega), q2r, u1]
                  have q42 : Q4 r 2 = S.length + 1 := by rw [g4, um_at, ur_ne (by omega), g3, um_at, ur_at, q2r, u2]
                  have q4st : Q4 st = ur (M3 st) S.length (p - a) := by rw [g4, um_ne (fun z => n2 z.symm), g3, um_ne (fun z => n2 z.symm), g2, um_ne n6, g1, um_at, u2, i4 st (fun z => n4 z.symm)]
                  have q4sz : Q4 sz = ur (M3 sz) S.length gt := by rw [g4, um_ne (fun z => n3 z.symm), g3, um_ne (fun z => n3 z.symm), g2, um_at, q1r, u2, g1, um_ne (fun z => n6 z.symm), i4 sz (fun z => n5 z.symm)]
                  have q4b : Q4 b = M4 b := by rw [g4, um_ne (fun z => n1 z.symm), g3, um_ne (fun z => n1 z.symm), g2, um_ne n5, g1, um_ne n4]
                  have q4o : ∀ c : Nat, c ≠ r → c ≠ b → c ≠ st → c ≠ sz → Q4 c = M3 c := fun c k1 k2 k3 k4 => by rw [g4, um_ne k1, g3, um_ne k1, g2, um_ne k4, g1, um_ne k3, i4 c k2]
                  have hgo : (o.length : Int) = gt := by omega
                  have zz := ih (p + 2 + hd % 32768) (R ++ o) (S ++ [p - a]) Q4 (some (ti (hd % 32768))) (some (ti pl)) (some (ti gt)) (some (ti l)) (some (ti j)) (by omega) (by omega) hq4 (by omega) hpe d6' ⟨fun c k1 k2 k3 k4 k5 k6 k7 => ?_, fun i hi => ?_⟩ ⟨⟨?_, ?_⟩, ?_, fun i hi => ?_, fun i hi => ?_⟩ (fun hlt => ?_) (by omega) (by omega)
                  · rw [show p + 2 + hd % 32768 = p + 2 + hd % 32768 from rfl, g4, g3, g2, g1] at zz
                    exact zz
                  · rw [q4o c k2 k3 k4 k5]
                    exact f3.1 c k1 k2 k3 k4 k5 k6 k7
                  · rw [q4o 168 (by omega) (by omega) (by omega) (by omega)]
                    exact f3.2 i hi
                  · rw [q41, hlo]
                    omega
                  · rw [q4b, hlo, sl_add]
                    congr 1
                    · rw [← w2, sl_len]
                      exact sl_congr _ _ _ (fun i hi => by rw [i5 _ (by omega)])
                    · rw [ol, go]
                      exact sl_congr _ _ _ (fun i hi => by rw [show (0 : Int) + (R.length : Int) + (i : Int) = R.length + i by omega]; exact i6 i (by omega) (by omega))
                  · rw [q42, hls]
                    omega
                  · rw [hls] at hi
                    rw [q4st, app_get]
                    by_cases ci : i < S.length
                    · rw [if_pos ci, ur_ne (by omega)]
                      exact w4 i ci
                    · have ei : i = S.length := by omega
                      rw [if_neg ci, if_pos ei, ei, ur_at]
                      rfl
                  · rw [hls] at hi
                    rw [q4sz, hlo]
                    by_cases ci : i < S.length
                    · rw [ur_ne (by omega), w5 i ci]
                      omega
                    · have ei : i = S.length := by omega
                      rw [ei, ur_at]
                      omega
                  · rw [hlo, hls]
                    have := hfull hlt
                    omega
                · refine ⟨_, h1, ?_⟩
                  refine ⟨_, h1, ?_⟩
                  have ST : ∀ x : Int, x % 256 = (if pl = 1 then M3 211 else M3 258) ((if pl = 1 then p + 2 else 0) + j) % 256 → b328_190 (d + 4) (fW (d + 4) kd328 K) K [some (fx 168), some (gr r), some (ti a), some (ti m), some (ti p), some (ti (hd % 32768)), some (ti pl), some (ti gt), some (ti l), some (ti j)] [ti x, ti (M4 r 1 + j), gr b] (sh, M4, nx, zl) := by
                    intro x hx
                    refine ⟨nb, h2, by omega, ?_⟩
                    refine ihN (j + 1) _ (by omega) (by omega) (by omega) (fun c hc => by rw [um_ne hc]; exact i4 c hc) (fun q hq => ?_) (fun q k1 k2 => ?_)
                    · rw [um_at, ur_ne (by omega)]
                      exact i5 q hq
                    · rw [um_at, u1]
                      by_cases eq : q = j
                      · rw [eq, ur_at]
                        exact hx
                      · rw [ur_ne (by omega)]
                        exact i6 q k1 (by omega)
                  refine ⟨by omega, fun w8 => ?_, fun w8 => ?_⟩
                  · refine ⟨by omega, ?_⟩
                    refine ST _ ?_
                    rw [if_neg (by omega), if_neg (by omega), i4 258 (by omega), show (0 : Int) + j = j by omega]
                    omega
                  · have hpg2 := hpg (by omega)
                    refine ⟨by omega, ?_⟩
                    refine ST _ ?_
                    rw [if_pos (by omega), if_pos (by omega), i4 211 (by omega)]
                    omega
            exact C (gt.toNat + 1) 0 M3 (by omega) (by omega) (by omega) (fun _ _ => rfl) (fun _ _ => rfl) (fun q k1 k2 => by omega)
          · rw [if_pos (Or.inr (by omega))] at d6
            exact FAIL d6 l
        -- whether it is the last one
        have B103 : ∀ l : Int, (l = 1 ∧ p + 2 + hd % 32768 = m ∨ l = 0 ∧ p + 2 + hd % 32768 ≠ m) → b328_103 (d + 4) (fW (d + 4) kd328 K) K [some (fx 168), some (gr r), some (ti a), some (ti m), some (ti p), some (ti (hd % 32768)), some (ti pl), some (ti gt), y8, y9] [ti l] (sh, M3, nx, zl) := by
          intro l hl
          refine ⟨by omega, fun w6 => ?_, fun w6 => ?_⟩
          · refine FAIL ?_ l
            rw [fN w6] at d6
            by_cases c : R.length ≠ 8192 * S.length ∨ cap ≤ S.length
            · rw [if_pos c] at d6
              exact d6
            · rw [if_neg c] at d6
              exact d6
          · refine ⟨by omega, fun w7 => B124 l (by omega) (fun q => by omega), fun w7 => ?_⟩
            refine ⟨by omega, fun w8 => ?_, fun w8 => B124 l (by omega) (fun q => by omega)⟩
            refine FAIL ?_ l
            by_cases c : R.length ≠ 8192 * S.length ∨ cap ≤ S.length
            · rw [if_pos c] at d6
              exact d6
            · rw [if_neg c] at d6
              obtain ⟨o, go⟩ : ∃ o : List Int, o = sl (if pl = 1 then M3 211 else M3 258) (if pl = 1 then p + 2 else 0) gt.toNat := ⟨_, rfl⟩
              have ol : o.length = gt.toNat := by rw [go, sl_len]
              have ep := fO o (by omega) (by omega) go.symm
              rw [ep] at d6
              have d6' : rdS (M 211) a m cap = rdG (M 211) a m cap g (p + 2 + hd % 32768) (R ++ o) (S ++ [p - a]) := d6
              rw [d6']
              cases g with
              | zero => rfl
              | succ g =>
                have hlo : (R ++ o).length = R.length + o.length := List.length_append
                have hls : (S ++ [p - a]).length = S.length + 1 := by simp
                show (if m ≤ p + 2 + hd % 32768 then some (R ++ o, S ++ [p - a]) else if (R ++ o).length ≠ 8192 * (S ++ [p - a]).length ∨ cap ≤ (S ++ [p - a]).length then none else _) = none
                rw [if_neg (by omega), if_pos (Or.inl (by rw [hlo, hls]; omega))]
        refine ⟨by omega, fun w6 => B103 0 (Or.inr ⟨rfl, w6⟩), fun w6 => B103 1 (Or.inl ⟨rfl, w6⟩)⟩
      refine ⟨by omega, fun w5 => ?_, fun w5 => ?_⟩
      · refine ⟨by omega, fun _ => ?_, fun z => absurd rfl z⟩
        rw [if_neg (by omega)] at eb
        have keep : ∀ M3 : FM, vnF M2 M3 258 8192 → rdF M M3 r b st sz := fun M3 hu => ⟨fun c k1 k2 k3 k4 k5 k6 k7 => (hu.1 c k1 k6 k7).trans (d7.1 c k1 k2 k3 k4 k5 k6 k7), fun i hi => (hu.2.1 i hi).trans (d7.2 i hi)⟩
        have keep2 : ∀ M3 : FM, vnF M2 M3 258 8192 → rrV M3 r b st sz R S := by
          intro M3 hu
          unfold rrV
          rw [hu.1 r (by omega) (by omega) (by omega), hu.1 b (by omega) (by omega) (by omega), hu.1 st (by omega) (by omega) (by omega), hu.1 sz (by omega) (by omega) (by omega)]
          exact d8
        refine munpack_Y (d := d) (nS := 131072) (nT := 8192) rfl rfl (by decide) (by decide) (by omega) (by omega) (by omega) (by omega) (fun hu M3 hF => ?_) (fun o hu M3 hF hsl => ?_)
        · rw [e211] at hu
          rw [hu] at eb
          exact B85 0 (-1) M3 (Or.inl rfl) (fun z => by omega) (by omega) (keep M3 hF) (keep2 M3 hF) (fun _ => eb) (fun o _ h _ => by omega)
        · rw [e211] at hu
          rw [hu] at eb
          have ho : (o.length : Int) ≤ 8192 := by
            have z := unS_len hu
            omega
          have eb' : pbS (M 211) p = if o.length = 0 then none else some o := eb
          refine B85 0 o.length M3 (Or.inl rfl) (fun z => by omega) (by omega) (keep M3 hF) (keep2 M3 hF) (fun q => ?_) (fun o2 q1 q2 q3 => ?_)
          · rw [if_pos (by omega)] at eb'
            exact eb'
          · rw [if_neg (by omega)] at eb'
            rw [if_neg (by omega), if_neg (by omega), Int.toNat_natCast, hsl] at q3
            rw [eb', q3]
      · refine ⟨by omega, fun z => by omega, fun _ => ?_⟩
        rw [if_pos (by omega)] at eb
        refine B85 1 (hd % 32768) M2 (Or.inr rfl) (fun _ => rfl) (by omega) d7 d8 (fun q => by omega) (fun o2 q1 q2 q3 => ?_)
        rw [if_pos rfl, if_pos rfl, e211] at q3
        rw [eb, q3]
  have zz := L (m.toNat + 1) a [] [] M1 none none none none none (by omega) ha.1 ha.2 (by omega) hpc rfl ⟨fun c _ k2 _ _ _ _ _ => x1 c k2, fun i _ => by rw [x1 168 (by omega)]⟩ ⟨⟨x2, rfl⟩, x3, (fun i hi => absurd hi (Nat.not_lt_zero i)), (fun i hi => absurd hi (Nat.not_lt_zero i))⟩ (fun _ => rfl) (Nat.zero_le _) (Nat.zero_le _)
  rw [gM1] at zz
  exact zz
end MROW
