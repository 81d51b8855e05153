/-! FREEZING: a listing, the reference -/
/-- the reference's tree is the same -/
def tsR (M0 M : FM) : Prop := (∀ c : Nat, 171 ≤ c → c ≤ 187 → M c = M0 c) ∧ ∀ i : Int, i ≤ 26 → M 168 i = M0 168 i
/-- what a listing leaves -/
def mlF (M M2 : FM) : Prop := (∀ c : Nat, c ≠ 168 → (c < 188 ∨ 203 < c) → (c < 230 ∨ 233 < c) → (c < 235 ∨ 237 < c) → M2 c = M c) ∧ ∀ i : Int, i ≠ 28 → i ≠ 31 → i ≠ 42 → i ≠ 86 → M2 168 i = M 168 i
theorem mlF_r (M : FM) : mlF M M := ⟨fun _ _ _ _ _ => rfl, fun _ _ _ _ _ => rfl⟩
theorem mlF_t {M M2 M3 : FM} (h : mlF M M2) (g : mlF M2 M3) : mlF M M3 := ⟨fun c h1 h2 h3 h4 => (g.1 c h1 h2 h3 h4).trans (h.1 c h1 h2 h3 h4), fun i h1 h2 h3 h4 => (g.2 i h1 h2 h3 h4).trans (h.2 i h1 h2 h3 h4)⟩
theorem mlF_a {M M2 : FM} (h : maF M M2 230) : mlF M M2 := ⟨fun c h1 h2 h3 h4 => h.1 c h1 h2 (by omega) (by omega) (by omega) (by omega), fun i h1 h2 h3 h4 => h.2 i h1 h2 h3⟩
theorem tsR_l {M0 M M2 : FM} (h : tsR M0 M) (g : mlF M M2) : tsR M0 M2 := ⟨fun c h1 h2 => by rw [g.1 c (by omega) (by omega) (by omega) (by omega), h.1 c h1 h2], fun i hi => by rw [g.2 i (by omega) (by omega) (by omega) (by omega), h.2 i hi]⟩
def rgE (M0 M : FM) (x : Int) (j : Nat) : ENt := (M 228 (M 234 (M0 184 (fe M0 x + j)) / 8192), M 234 (M0 184 (fe M0 x + j)) % 8192, M 214 (M0 184 (fe M0 x + j)), M0 171 (M0 184 (fe M0 x + j)), nmL M0 (fe M0 x + j))
def rgB (M0 M : FM) (x : Int) : Prop := ∀ j : Nat, j < ec M0 x → (0 ≤ M 234 (M0 184 (fe M0 x + j)) ∧ M 234 (M0 184 (fe M0 x + j)) ≤ 65536) ∧ (0 ≤ M 228 (M 234 (M0 184 (fe M0 x + j)) / 8192) ∧ M 228 (M 234 (M0 184 (fe M0 x + j)) / 8192) ≤ 131072) ∧ (0 ≤ M 214 (M0 184 (fe M0 x + j)) ∧ M 214 (M0 184 (fe M0 x + j)) ≤ 2000)
/-- the reference's indexes -/
def mlA (M : FM) (e : Int) (X : List (Int × Int × Nat)) : Prop := M 168 86 = X.length ∧ ∀ (i : Nat) (p : Int × Int × Nat), X[i]? = some p → M 235 i = p.1 ∧ M 236 i = p.2.1 ∧ M 237 i = e + p.2.2
theorem mlA_F {M M2 : FM} {e : Int} {X : List (Int × Int × Nat)} (h : mlA M e X) (h0 : M2 168 86 = M 168 86) (h1 : M2 235 = M 235) (h2 : M2 236 = M 236) (h3 : M2 237 = M 237) : mlA M2 e X := by
  unfold mlA at *
  rw [h0, h1, h2, h3]
  exact h
section MLISTING
variable {d nx zl : Nat} {K : Option TV → FH → Prop} {sh : Nat → Option Shp} {M0 M : FM} {op : Int} {x : Int}
theorem mputListing_Y {R : List Int} (hW : twR M0) (hts : tsR M0 M) (hop : 0 ≤ op ∧ op ≤ 15) (h69 : M 168 69 = op) (hb : rgB M0 M x) (hQ : mrO M 230 231 232 233 (1 - op % 2) R)
    (k : ∀ (M2 : FM) (j : Nat), mlF M M2 → j ≤ ec M0 x → mrO M2 230 231 232 233 (1 - op % 2) (lsC (rgE M0 M x) (lsS (1 - op % 2) (rgE M0 M x) R j)) → (j = ec M0 x ∨ 65536 < (lsC (rgE M0 M x) (lsS (1 - op % 2) (rgE M0 M x) R j)).length) → (lX (lsS (1 - op % 2) (rgE M0 M x) R j)).length ≤ 8 → (∀ p ∈ lX (lsS (1 - op % 2) (rgE M0 M x) R j), (0 ≤ p.1 ∧ p.1 ≤ 65536) ∧ (0 ≤ p.2.1 ∧ p.2.1 ≤ 65552) ∧ p.2.2 < ec M0 x) → mlA M2 (fe M0 x) (lX (lsS (1 - op % 2) (rgE M0 M x) R j)) → K none (sh, M2, nx, zl)) : fm_Y (d + 22) 308 [.ref 168, .int (Int32.ofInt (fe M0 x)), .int (Int32.ofInt (fe M0 x + ec M0 x))] (sh, M, nx, zl) K := by
  have n20 := hW.2.2.2.1.1
  have nN := hW.1.1
  have er := fe_r hW x
  obtain ⟨z, hzz⟩ : ∃ z : Int, z = 1 - op % 2 := ⟨_, rfl⟩
  obtain ⟨g, hg⟩ : ∃ g : Nat → ENt, g = rgE M0 M x := ⟨_, rfl⟩
  rw [← hzz, ← hg] at k
  rw [← hzz] at hQ
  obtain ⟨f, hf⟩ : ∃ f : Int, f = fe M0 x := ⟨_, rfl⟩
  rw [← hf] at er k ⊢
  obtain ⟨n, hn⟩ : ∃ n : Nat, n = ec M0 x := ⟨_, rfl⟩
  rw [← hn] at er k ⊢
  have hb2 : ∀ j : Nat, j < n → (0 < M0 184 (f + j) ∧ M0 184 (f + j) < 2000) ∧ (0 ≤ M 234 (M0 184 (f + j)) ∧ M 234 (M0 184 (f + j)) ≤ 65536) ∧ (0 ≤ lst (g j) ∧ lst (g j) ≤ 131072) ∧ (0 ≤ lnu (g j) ∧ lnu (g j) ≤ 2000) ∧ (1 ≤ lkd (g j) ∧ lkd (g j) ≤ 7) ∧ (0 ≤ M0 185 (f + j) ∧ 1 ≤ M0 186 (f + j) ∧ M0 186 (f + j) ≤ 256 ∧ M0 185 (f + j) + M0 186 (f + j) ≤ 32768) := fun j hj => by
    have l := ent_live hW (k := f + j) (by omega) (by omega)
    have b := hb j (by omega)
    have e := (hW.2.2.2.1.2 (f + j) (by omega) (by omega)).2.2.1
    have kd := (hW.1.2 (M0 184 (f + j)) (by omega) (by omega)).1
    rw [hf] at *
    rw [hg]
    exact ⟨by omega, b.1, b.2.1, b.2.2, kd, by omega⟩
  have gst : ∀ j : Nat, lst (g j) = M 228 (M 234 (M0 184 (f + j)) / 8192) := fun j => by rw [hg, hf]; rfl
  have gof : ∀ j : Nat, lof (g j) = M 234 (M0 184 (f + j)) % 8192 := fun j => by rw [hg, hf]; rfl
  have gnu : ∀ j : Nat, lnu (g j) = M 214 (M0 184 (f + j)) := fun j => by rw [hg, hf]; rfl
  have gkd : ∀ j : Nat, lkd (g j) = M0 171 (M0 184 (f + j)) := fun j => by rw [hg, hf]; rfl
  have gnm : ∀ j : Nat, lnm (g j) = nmL M0 (f + j) := fun j => by rw [hg, hf]; rfl
  have gnl : ∀ j : Nat, j < n → ((lnm (g j)).length : Int) = M0 186 (f + j) := fun j hj => by
    have b := (hb2 j hj).2.2.2.2.2
    rw [gnm j]
    unfold nmL
    rw [sl_len]
    omega
  have LOOP : ∀ (N j : Nat) (M1 : FM) (pc : Int) (y6 y7 y8 y9 y10 : Option TV), n - j < N → j ≤ n → mlF M M1 → mrO M1 230 231 232 233 z (lsC g (lsS z g R j)) → (j = 0 → pc = -1) → (0 < j → pc = ((lA (lsS z g R j)).length / 8192 : Nat)) → (j < n → lsN g (lsS z g R j) j) → (lX (lsS z g R j)).length ≤ 8 → (∀ p ∈ lX (lsS z g R j), (0 ≤ p.1 ∧ p.1 ≤ 65536) ∧ (0 ≤ p.2.1 ∧ p.2.1 ≤ 65552) ∧ p.2.2 < n) → mlA M1 f (lX (lsS z g R j)) → fm_X (d + 21) kd308 19 [some (fx 168), some (ti f), some (ti (f + n)), some (ti (M 230 1)), some (ti pc), some (ti (f + j)), y6, y7, y8, y9, y10] [] (sh, M1, nx, zl) K := by
    intro N
    induction N with
    | zero =>
      intro j M1 pc y6 y7 y8 y9 y10 hN
      omega
    | succ N ih =>
      intro j M1 pc y6 y7 y8 y9 y10 hN hj f1 w1 p0 p1 hnew x8 xb xA
      refine s308_19 (d + 21) K _ _ _ ?_
      refine ⟨by omega, fun w => ?_, fun w => ?_⟩
      · have e : j = n := by omega
        exact k M1 j f1 hj w1 (Or.inl e) x8 xb xA
      have jn : j < n := by omega
      obtain ⟨s, hs⟩ : ∃ s : LSt, s = lsS z g R j := ⟨_, rfl⟩
      obtain ⟨j1, j2, j3, j4, j5, j6⟩ := lsS_I z g R j
      have hN2 := hnew jn
      obtain ⟨C, hCC⟩ : ∃ C, C = lsC g s := ⟨_, rfl⟩
      have w0 := w1
      have p1' := p1
      have x8' := x8
      have xA' := xA
      have xb' := xb
      rw [← hs] at j1 j2 j3 j4 j5 j6 hN2 w1 p1 x8 xb xA
      rw [← hCC] at w1
      have c6 : M1 230 6 = if 65536 < C.length then 1 else 0 := w1.2
      by_cases full : 65536 < C.length
      · rw [if_pos full] at c6
        refine ⟨by omega, fun w2 => ?_, fun w2 => by omega⟩
        refine k M1 j f1 hj w0 (Or.inr ?_) x8' xb' xA'
        rw [← hs, ← hCC]
        exact full
      rw [if_neg full] at c6
      refine ⟨by omega, fun w2 => by omega, fun w2 => ?_⟩
      have bj := hb2 j jn
      have tk : C.take 65536 = C := List.take_of_length_le (by omega)
      have e1 : M1 230 1 = C.length := by
        have := w1.1.1.1
        rw [tk] at this
        exact this
      have st1 : ∀ i : Nat, i ≤ C.length / 8192 → M1 232 i = (clG z C 0 i).length := by
        have := w1.1.2.2.2
        rw [tk] at this
        exact this
      have RL : M 230 1 = R.length := by
        have l0 := lsS_le z g R (Nat.zero_le j)
        have l1 : lsC g (lsS z g R 0) = R := rfl
        rw [l1, ← hs, ← hCC] at l0
        have := hQ.1.1.1
        rw [List.take_of_length_le (by omega)] at this
        exact this
      have c184 : M1 184 = M0 184 := by rw [f1.1 184 (by omega) (by omega) (by omega) (by omega), hts.1 184 (by omega) (by omega)]
      have c186 : M1 186 = M0 186 := by rw [f1.1 186 (by omega) (by omega) (by omega) (by omega), hts.1 186 (by omega) (by omega)]
      have c234 : M1 234 = M 234 := f1.1 234 (by omega) (by omega) (by omega) (by omega)
      have c214 : M1 214 = M 214 := f1.1 214 (by omega) (by omega) (by omega) (by omega)
      have c228 : M1 228 = M 228 := f1.1 228 (by omega) (by omega) (by omega) (by omega)
      have c171 : M1 171 = M0 171 := by rw [f1.1 171 (by omega) (by omega) (by omega) (by omega), hts.1 171 (by omega) (by omega)]
      have v184 : M1 184 (f + j) = M0 184 (f + j) := by rw [c184]
      have v234 : M1 234 (M1 184 (f + j)) = M 234 (M0 184 (f + j)) := by rw [c184, c234]
      refine ⟨by omega, ?_⟩
      refine ⟨by omega, ?_⟩
      refine startOf_Y (d := d + 20) (mr226 sh) (by omega) ?_
      have vst : M1 228 (M1 234 (M1 184 (f + j)) / 8192) = lst (g j) := by rw [v234, c228, gst j]
      have vnu : M1 214 (M1 184 (f + j)) = lnu (g j) := by rw [c184, c214, gnu j]
      -- behind the index
      have hs1 : lsS z g R (j + 1) = (C, j, 1, enL (g j) (g j), lsX z R.length g s j) := by
        show lsT z R.length g (lsS z g R j) j = _
        rw [← hs, lsT_n hN2, ← hCC]
      obtain ⟨X, hX⟩ : ∃ X, X = lsX z R.length g s j := ⟨_, rfl⟩
      obtain ⟨b1, b2, b3, b4, b5, b6⟩ := lsS_I z g R (j + 1)
      rw [hs1, ← hX] at b5 b6
      have b5' : X.length + R.length / 8192 ≤ C.length / 8192 := b5
      have b6' : ∀ p ∈ X, (0 ≤ p.1 ∧ p.1 ≤ C.length) ∧ (0 ≤ p.2.1 ∧ p.2.1 ≤ 8194 * (C.length / 8192 : Nat)) ∧ p.2.2 < j + 1 := b6
      have xB : ∀ p ∈ X, (0 ≤ p.1 ∧ p.1 ≤ 65536) ∧ (0 ≤ p.2.1 ∧ p.2.1 ≤ 65552) ∧ p.2.2 < n := fun p hp => by
        have := b6' p hp
        omega
      have B147 : ∀ M3 : FM, mlF M M3 → mrO M3 230 231 232 233 z C → mlA M3 f X → b308_147 (d + 21) (fW (d + 21) kd308 K) K [some (fx 168), some (ti f), some (ti (f + n)), some (ti (M 230 1)), some (ti pc), some (ti (f + j)), some (ti C.length), some (ti (lst (g j))), some (ti (lnu (g j))), y9, y10] [] (sh, M3, nx, zl) := by
        intro M3 f3 w3 xA3
        have u184 : M3 184 = M0 184 := by rw [f3.1 184 (by omega) (by omega) (by omega) (by omega), hts.1 184 (by omega) (by omega)]
        have u186 : M3 186 = M0 186 := by rw [f3.1 186 (by omega) (by omega) (by omega) (by omega), hts.1 186 (by omega) (by omega)]
        have u234 : M3 234 = M 234 := f3.1 234 (by omega) (by omega) (by omega) (by omega)
        have u214 : M3 214 = M 214 := f3.1 214 (by omega) (by omega) (by omega) (by omega)
        have u228 : M3 228 = M 228 := f3.1 228 (by omega) (by omega) (by omega) (by omega)
        have bn := gnl j jn
        have t186 : M3 186 (f + j) = M0 186 (f + j) := by rw [u186]
        refine ⟨by omega, ?_⟩
        refine ⟨by omega, ?_⟩
        -- the group, put
        have B270 : ∀ (m : Nat) (bh : Int), 1 ≤ m → j + m ≤ n → m ≤ 256 → lA (lsS z g R (j + m)) = C → lH (lsS z g R (j + m)) = j → lM (lsS z g R (j + m)) = m → lX (lsS z g R (j + m)) = X → (j + m < n → lsN g (lsS z g R (j + m)) (j + m)) → b308_270 (d + 21) (fW (d + 21) kd308 K) K [some (fx 168), some (ti f), some (ti (f + n)), some (ti (M 230 1)), some (ti ((C.length : Int) / 8192)), some (ti (f + j)), some (ti C.length), some (ti (lst (g j))), some (ti (lnu (g j))), some (ti (f + ((j + m : Nat) : Int))), some (ti bh)] [] (sh, M3, nx, zl) := by
          intro m bh m1 mn m256 eA eH eM eX hnx
          refine ⟨by omega, ?_⟩
          have o69 : M3 168 69 = op := by rw [f3.2 69 (by decide) (by decide) (by decide) (by decide)]; exact h69
          have w3' := w3
          rw [hzz] at w3'
          refine addTo_Y (d := d + 1) (n := 4) (mr230 sh) hop o69 (by omega) (by omega) w3' (fun M4 f4 w4 => ?_)
          refine ⟨by omega, ?_⟩
          refine addTo_Y (d := d + 1) (n := 4) (mr230 sh) hop (by rw [f4.2 69 (by decide) (by decide) (by decide)]; exact o69) (by omega) (by omega) w4 (fun M5 f5 w5 => ?_)
          have g5 := maF_t f4 f5
          refine ⟨by omega, ?_⟩
          refine addTo_Y (d := d + 1) (n := 4) (mr230 sh) hop (by rw [g5.2 69 (by decide) (by decide) (by decide)]; exact o69) (by omega) (by omega) w5 (fun M6 f6 w6 => ?_)
          have g6 := maF_t g5 f6
          have f36 := mlF_t f3 (mlF_a g6)
          rw [show f + ((j + m : Nat) : Int) - (f + j) - 1 = (m : Int) - 1 by omega, ← hzz] at w6
          have xA6 : mlA M6 f X := mlA_F xA3 (g6.2 86 (by decide) (by decide) (by decide)) (g6.1 235 (by omega) (by omega) (by omega) (by omega) (by omega) (by omega)) (g6.1 236 (by omega) (by omega) (by omega) (by omega) (by omega) (by omega)) (g6.1 237 (by omega) (by omega) (by omega) (by omega) (by omega) (by omega))
          -- its entries
          have INN : ∀ (N2 t : Nat) (M7 : FM), m - t < N2 → t ≤ m → mlF M M7 → mrO M7 230 231 232 233 z (C ++ leL ((m : Int) - 1) 4 ++ leL (lst (g j)) 4 ++ leL (lnu (g j)) 4 ++ bdL g j t) → mlA M7 f X → fm_X (d + 21) kd308 311 [some (fx 168), some (ti f), some (ti (f + n)), some (ti (M 230 1)), some (ti ((C.length : Int) / 8192)), some (ti (f + ((j + t : Nat) : Int))), some (ti C.length), some (ti (lst (g j))), some (ti (lnu (g j))), some (ti (f + ((j + m : Nat) : Int))), some (ti bh)] [] (sh, M7, nx, zl) K := by
            intro N2
            induction N2 with
            | zero =>
              intro t M7 hN2
              omega
            | succ N2 ih2 =>
              intro t M7 hN3 ht f7 w7 xA7
              refine s308_311 (d + 21) K _ _ _ ?_
              refine ⟨by omega, fun w => ?_, fun w => ?_⟩
              · have et : t = m := by omega
                rw [et] at w7 ⊢
                have eC : C ++ leL ((m : Int) - 1) 4 ++ leL (lst (g j)) 4 ++ leL (lnu (g j)) 4 ++ bdL g j m = lsC g (lsS z g R (j + m)) := by
                  obtain ⟨-, -, -, t4, -, -⟩ := lsS_I z g R (j + m)
                  have t5 := (t4 (by omega)).2.2
                  rw [lsC_at (by omega), eA, eH, eM, t5, eH, eM]
                  unfold lhd
                  simp only [List.append_assoc]
                rw [eC] at w7
                refine ih (j + m) M7 _ _ _ _ _ _ (by omega) mn f7 w7 (fun e => by omega) (fun _ => ?_) hnx (by rw [eX]; omega) (by rw [eX]; exact xB) (by rw [eX]; exact xA7)
                rw [eA]
                omega
              · have bt := hb2 (j + t) (by omega)
                have gt := gof (j + t)
                have gn := gnu (j + t)
                have gk := gkd (j + t)
                have nl := gnl (j + t) (by omega)
                have v184 : M7 184 = M0 184 := by rw [f7.1 184 (by omega) (by omega) (by omega) (by omega), hts.1 184 (by omega) (by omega)]
                have v234 : M7 234 = M 234 := f7.1 234 (by omega) (by omega) (by omega) (by omega)
                have q184 : M7 184 (f + ((j + t : Nat) : Int)) = M0 184 (f + ((j + t : Nat) : Int)) := by rw [v184]
                have q234 : M7 234 (M7 184 (f + ((j + t : Nat) : Int))) = M 234 (M0 184 (f + ((j + t : Nat) : Int))) := by rw [v184, v234]
                have o69' : M7 168 69 = op := by rw [f7.2 69 (by decide) (by decide) (by decide) (by decide)]; exact h69
                rw [hzz] at w7
                refine ⟨by omega, ?_⟩
                refine ⟨by omega, ?_⟩
                refine ⟨by omega, ?_⟩
                refine ⟨by omega, ?_⟩
                refine addTo_Y (d := d + 1) (n := 2) (mr230 sh) hop o69' (by omega) (by omega) w7 (fun M8 f8 w8 => ?_)
                have h8 := mlF_t f7 (mlF_a f8)
                have q8 : M8 184 (f + ((j + t : Nat) : Int)) = M0 184 (f + ((j + t : Nat) : Int)) := by rw [h8.1 184 (by omega) (by omega) (by omega) (by omega), hts.1 184 (by omega) (by omega)]
                have r8 : M8 214 (M8 184 (f + ((j + t : Nat) : Int))) = lnu (g (j + t)) := by rw [q8, h8.1 214 (by omega) (by omega) (by omega) (by omega), gn]
                refine ⟨by omega, ?_⟩
                refine ⟨by omega, ?_⟩
                refine ⟨by omega, ?_⟩
                refine addTo_Y (d := d + 1) (n := 2) (mr230 sh) hop (by rw [h8.2 69 (by decide) (by decide) (by decide) (by decide)]; exact h69) (by omega) (by omega) w8 (fun M9 f9 w9 => ?_)
                have h9 := mlF_t h8 (mlF_a f9)
                have q9 : M9 184 (f + ((j + t : Nat) : Int)) = M0 184 (f + ((j + t : Nat) : Int)) := by rw [h9.1 184 (by omega) (by omega) (by omega) (by omega), hts.1 184 (by omega) (by omega)]
                have r9 : M9 171 (M9 184 (f + ((j + t : Nat) : Int))) = lkd (g (j + t)) := by rw [q9, h9.1 171 (by omega) (by omega) (by omega) (by omega), hts.1 171 (by omega) (by omega), gk]
                refine ⟨by omega, ?_⟩
                refine ⟨by omega, ?_⟩
                refine ⟨by omega, ?_⟩
                refine addTo_Y (d := d + 1) (n := 2) (mr230 sh) hop (by rw [h9.2 69 (by decide) (by decide) (by decide) (by decide)]; exact h69) (by omega) (by omega) w9 (fun Ma fa wa => ?_)
                have ha := mlF_t h9 (mlF_a fa)
                have ra : Ma 186 (f + ((j + t : Nat) : Int)) = M0 186 (f + ((j + t : Nat) : Int)) := by rw [ha.1 186 (by omega) (by omega) (by omega) (by omega), hts.1 186 (by omega) (by omega)]
                refine ⟨by omega, ?_⟩
                refine ⟨by omega, ?_⟩
                refine addTo_Y (d := d + 1) (n := 2) (mr230 sh) hop (by rw [ha.2 69 (by decide) (by decide) (by decide) (by decide)]; exact h69) (by omega) (by omega) wa (fun Mb fb wb => ?_)
                have hb' := mlF_t ha (mlF_a fb)
                have rb5 : Mb 185 (f + ((j + t : Nat) : Int)) = M0 185 (f + ((j + t : Nat) : Int)) := by rw [hb'.1 185 (by omega) (by omega) (by omega) (by omega), hts.1 185 (by omega) (by omega)]
                have rb6 : Mb 186 (f + ((j + t : Nat) : Int)) = M0 186 (f + ((j + t : Nat) : Int)) := by rw [hb'.1 186 (by omega) (by omega) (by omega) (by omega), hts.1 186 (by omega) (by omega)]
                refine addName_Y (d := d) (mr230 sh) hop (by rw [hb'.2 69 (by decide) (by decide) (by decide) (by decide)]; exact h69) (by omega) (by omega) wb (fun Mc fc wc => ?_)
                have hc := mlF_t hb' (mlF_a fc)
                have eN : nmL Mb (f + ((j + t : Nat) : Int)) = lnm (g (j + t)) := by
                  rw [gnm]
                  unfold nmL
                  rw [hb'.1 185 (by omega) (by omega) (by omega) (by omega), hts.1 185 (by omega) (by omega), hb'.1 186 (by omega) (by omega) (by omega) (by omega), hts.1 186 (by omega) (by omega), hb'.1 187 (by omega) (by omega) (by omega) (by omega), hts.1 187 (by omega) (by omega)]
                have all : maF M7 Mc 230 := maF_t f8 (maF_t f9 (maF_t fa (maF_t fb fc)))
                have F := ih2 (t + 1) Mc (by omega) (by omega) hc ?_ (mlA_F xA7 (all.2 86 (by decide) (by decide) (by decide)) (all.1 235 (by omega) (by omega) (by omega) (by omega) (by omega) (by omega)) (all.1 236 (by omega) (by omega) (by omega) (by omega) (by omega) (by omega)) (all.1 237 (by omega) (by omega) (by omega) (by omega) (by omega) (by omega)))
                · rw [show f + ((j + (t + 1) : Nat) : Int) = f + ((j + t : Nat) : Int) + 1 by omega] at F
                  exact F
                · rw [eN, ra, r8, r9, q234, ← gt, ← hzz] at wc
                  have eE : bdL g j (t + 1) = bdL g j t ++ enL (g (j + t)) (g j) := rfl
                  have l2 := lof (g (j + t))
                  rw [eE]
                  unfold enL enB
                  rw [nl, show lof (g (j + t)) % 65536 = lof (g (j + t)) by omega]
                  simp only [List.append_assoc] at wc ⊢
                  exact wc
          have F := INN (m + 1) 0 M6 (by omega) (by omega) f36 ?_ xA6
          · exact F
          · show mrO M6 230 231 232 233 z (C ++ leL ((m : Int) - 1) 4 ++ leL (lst (g j)) 4 ++ leL (lnu (g j)) 4 ++ [])
            rw [List.append_nil]
            exact w6
        -- how many go together
        have GRP : ∀ (N2 m : Nat) (bh : Int), 256 - m < N2 → 1 ≤ m → m ≤ 256 → j + m ≤ n → lA (lsS z g R (j + m)) = C → lH (lsS z g R (j + m)) = j → lM (lsS z g R (j + m)) = m → lX (lsS z g R (j + m)) = X → bh = (lsC g (lsS z g R (j + m))).length → bh ≤ 80000 → fm_X (d + 21) kd308 176 [some (fx 168), some (ti f), some (ti (f + n)), some (ti (M 230 1)), some (ti ((C.length : Int) / 8192)), some (ti (f + j)), some (ti C.length), some (ti (lst (g j))), some (ti (lnu (g j))), some (ti (f + ((j + m : Nat) : Int))), some (ti bh)] [] (sh, M3, nx, zl) K := by
          intro N2
          induction N2 with
          | zero =>
            intro m bh hN3
            omega
          | succ N2 ih2 =>
            intro m bh hN3 m1 m256 mn eA eH eM eX ebh bh8
            have OUT : (j + m < n → lsN g (lsS z g R (j + m)) (j + m)) → b308_270 (d + 21) (fW (d + 21) kd308 K) K [some (fx 168), some (ti f), some (ti (f + n)), some (ti (M 230 1)), some (ti ((C.length : Int) / 8192)), some (ti (f + j)), some (ti C.length), some (ti (lst (g j))), some (ti (lnu (g j))), some (ti (f + ((j + m : Nat) : Int))), some (ti bh)] [] (sh, M3, nx, zl) := fun h => B270 m bh m1 mn m256 eA eH eM eX h
            refine s308_176 (d + 21) K _ _ _ ?_
            refine ⟨by omega, fun w => OUT (fun q => by omega), fun w => ?_⟩
            refine ⟨by omega, fun w2 => OUT (fun q => Or.inr (Or.inl (by rw [eM]; omega))), fun w2 => ?_⟩
            have bt := hb2 (j + m) (by omega)
            have q184 : M3 184 (f + ((j + m : Nat) : Int)) = M0 184 (f + ((j + m : Nat) : Int)) := by rw [u184]
            have q234 : M3 234 (M3 184 (f + ((j + m : Nat) : Int))) = M 234 (M0 184 (f + ((j + m : Nat) : Int))) := by rw [u184, u234]
            have q228 : M3 228 (M3 234 (M3 184 (f + ((j + m : Nat) : Int))) / 8192) = lst (g (j + m)) := by rw [q234, u228, gst]
            have q214 : M3 214 (M3 184 (f + ((j + m : Nat) : Int))) = lnu (g (j + m)) := by rw [u184, u214, gnu]
            refine ⟨by omega, ?_⟩
            refine ⟨by omega, ?_⟩
            refine startOf_Y (d := d + 20) (mr226 sh) (by omega) ?_
            rw [q228]
            refine ⟨by omega, fun w3 => OUT (fun q => Or.inr (Or.inr (Or.inr (fun l => w3 (by rw [eH] at l; exact l.1))))), fun w3 => ?_⟩
            refine ⟨by omega, ?_⟩
            refine ⟨by omega, ?_⟩
            rw [q214]
            refine isNear_Y (d := d + 20) (by omega) (fun zz hzz2 => ?_)
            rcases hzz2 with ⟨y1, y2⟩ | ⟨y1, y2⟩
            · rw [y1]
              refine ⟨by omega, fun w4 => by omega, fun w4 => ?_⟩
              refine ⟨by omega, ?_⟩
              refine ⟨by omega, fun w5 => OUT (fun q => Or.inr (Or.inr (Or.inl (fun e => w5 (by rw [eA] at e; omega))))), fun w5 => ?_⟩
              have hNo : ¬ lsN g (lsS z g R (j + m)) (j + m) := by
                intro q
                rcases q with q | q | q | q
                · omega
                · omega
                · rw [eA] at q
                  omega
                · rw [eH] at q
                  exact q ⟨w3, by omega, by omega⟩
              have eS : lsS z g R (j + (m + 1)) = (C, j, m + 1, lB (lsS z g R (j + m)) ++ enL (g (j + m)) (g j), X) := by
                show lsT z R.length g (lsS z g R (j + m)) (j + m) = _
                rw [lsT_o hNo, eA, eH, eM, eX]
              have bn2 := gnl (j + m) (by omega)
              have t186b : M3 186 (f + ((j + m : Nat) : Int)) = M0 186 (f + ((j + m : Nat) : Int)) := by rw [u186]
              refine ⟨by omega, ?_⟩
              have F := ih2 (m + 1) (bh + 8 + M3 186 (f + ((j + m : Nat) : Int))) (by omega) (by omega) (by omega) (by omega) (by rw [eS]; rfl) (by rw [eS]; rfl) (by rw [eS]; rfl) (by rw [eS]; rfl) ?_ (by omega)
              · rw [show f + ((j + (m + 1) : Nat) : Int) = f + ((j + m : Nat) : Int) + 1 by omega] at F
                exact F
              · have l1 : (lsC g (lsS z g R (j + m))).length = C.length + (12 + (lB (lsS z g R (j + m))).length) := by rw [lsC_at (by omega), eA, List.length_append, lhd_len]
                have l2 : (lsC g (lsS z g R (j + (m + 1)))).length = C.length + (12 + ((lB (lsS z g R (j + m))).length + (8 + (lnm (g (j + m))).length))) := by
                  rw [eS]
                  show (C ++ lhd (m + 1) (g j) (lB (lsS z g R (j + m)) ++ enL (g (j + m)) (g j))).length = _
                  rw [List.length_append, lhd_len, List.length_append, enL_len]
                omega
            · rw [y1]
              refine ⟨by omega, fun w4 => OUT (fun q => Or.inr (Or.inr (Or.inr (fun l => y2 (by rw [eH] at l; exact ⟨l.2.1, by have := l.2.2; omega⟩))))), fun w4 => by omega⟩
        have F := GRP 256 1 ((C.length : Int) + 20 + M3 186 (f + j)) (by omega) (by omega) (by omega) (by omega) (by rw [hs1]; rfl) (by rw [hs1]; rfl) (by rw [hs1]; rfl) (by rw [hs1, ← hX]; rfl) ?_ (by omega)
        · rw [show f + ((j + 1 : Nat) : Int) = f + j + 1 by omega] at F
          exact F
        · have l2 : (lsC g (lsS z g R (j + 1))).length = C.length + (12 + (8 + (lnm (g j)).length)) := by
            rw [hs1]
            show (C ++ lhd 1 (g j) (enL (g j) (g j))).length = _
            rw [List.length_append, lhd_len, enL_len]
          omega
      have T70 : b308_70 (d + 21) (fW (d + 21) kd308 K) K [some (fx 168), some (ti f), some (ti (f + n)), some (ti (M 230 1)), some (ti pc), some (ti (f + j)), some (ti C.length), some (ti (lst (g j))), y8, y9, y10] [fx 168, fx 214] (sh, M1, nx, zl) := by
        refine ⟨by omega, ?_⟩
        refine ⟨by omega, ?_⟩
        rw [vnu]
        by_cases j0 : j = 0
        · refine ⟨by have := p0 j0; omega, fun w3 => ?_, fun w3 => by have := p0 j0; omega⟩
          refine B147 M1 f1 w1 ?_
          have e : X = lX s := by
            rw [hX]
            unfold lsX
            rw [if_neg (fun q => q.1 (j3 j0))]
          rw [e]
          exact xA
        · have pv := p1 (by omega)
          have m0 := (j4 (by omega)).1
          have lAC := lsC_A g s
          rw [← hCC] at lAC
          refine ⟨by omega, fun w3 => by omega, fun w3 => ?_⟩
          refine ⟨by omega, ?_⟩
          refine ⟨by omega, fun w4 => ?_, fun w4 => ?_⟩
          · refine B147 M1 f1 w1 ?_
            have e : X = lX s := by
              rw [hX]
              unfold lsX
              rw [if_neg (fun q => q.2 (by rw [← hCC]; omega))]
            rw [e]
            exact xA
          · have eX : X = lX s ++ [(((C.length : Nat) : Int) - R.length, ((clG z C 0 (C.length / 8192)).length : Int), j)] := by
              rw [hX]
              unfold lsX
              rw [← hCC, if_pos ⟨by omega, fun q => w4 (by omega)⟩]
            have x86 := xA.1
            refine ⟨by omega, ?_⟩
            obtain ⟨P1, g1⟩ : ∃ P1 : FM, P1 = pq M1 235 (M1 168 86) ((C.length : Int) - M 230 1) := ⟨_, rfl⟩
            have T1 : (o_al 0 (o_get 12 88 88 (o_al 0 (o_get 12 86 86 (o_al 0 (b308_117 (d + 21) (fW (d + 21) kd308 K) K))))) : FC) [some (fx 168), some (ti f), some (ti (f + n)), some (ti (M 230 1)), some (ti pc), some (ti (f + j)), some (ti C.length), some (ti (lst (g j))), some (ti (lnu (g j))), y9, y10] [] (sh, P1, nx, zl) := by
              have o1 : ∀ c : Nat, c ≠ 235 → P1 c = M1 c := fun c hc => by rw [g1, pq_o _ _ _ hc]
              have v86 : P1 168 86 = M1 168 86 := by rw [o1 168 (by omega)]
              have i8 : ((C.length : Nat) : Int) / 8192 = ((C.length / 8192 : Nat) : Int) := by omega
              refine startOf_Y (d := d + 20) (mr230 sh) (by omega) ?_
              have vs : P1 232 ((C.length : Int) / 8192) = (clG z C 0 (C.length / 8192)).length := by
                rw [o1 232 (by omega), i8]
                exact st1 _ (Nat.le_refl _)
              refine ⟨by omega, ?_⟩
              rw [vs]
              obtain ⟨P2, g2⟩ : ∃ P2 : FM, P2 = pq P1 236 (P1 168 86) ((clG z C 0 (C.length / 8192)).length : Int) := ⟨_, rfl⟩
              have T2 : (o_al 0 (o_get 12 89 89 (o_al 0 (o_get 12 86 86 (o_il 5 (o_iast (o_al 0 (o_dup (o_get 12 86 86 (o_ic 1 (o_iadd (o_put 12 86 86 (b308_147 (d + 21) (fW (d + 21) kd308 K) K)))))))))))) : FC) [some (fx 168), some (ti f), some (ti (f + n)), some (ti (M 230 1)), some (ti pc), some (ti (f + j)), some (ti C.length), some (ti (lst (g j))), some (ti (lnu (g j))), y9, y10] [] (sh, P2, nx, zl) := by
                have o2 : ∀ c : Nat, c ≠ 236 → P2 c = P1 c := fun c hc => by rw [g2, pq_o _ _ _ hc]
                have v2 : P2 168 86 = M1 168 86 := by rw [o2 168 (by omega), v86]
                refine ⟨by omega, ?_⟩
                obtain ⟨P3, g3⟩ : ∃ P3 : FM, P3 = pq P2 237 (P2 168 86) (f + j) := ⟨_, rfl⟩
                obtain ⟨P4, g4⟩ : ∃ P4 : FM, P4 = pq P3 168 86 (P3 168 86 + 1) := ⟨_, rfl⟩
                have o3 : ∀ c : Nat, c ≠ 237 → P3 c = P2 c := fun c hc => by rw [g3, pq_o _ _ _ hc]
                have v3 : P3 168 86 = M1 168 86 := by rw [o3 168 (by omega), v2]
                have o4 : ∀ c : Nat, c ≠ 168 → P4 c = P3 c := fun c hc => by rw [g4, pq_o _ _ _ hc]
                have o14 : ∀ c : Nat, c ≠ 168 → c ≠ 235 → c ≠ 236 → c ≠ 237 → P4 c = M1 c := fun c c1 c2 c3 c4 => by rw [o4 c c1, o3 c c4, o2 c c3, o1 c c2]
                have n4 : ∀ i : Int, i ≠ 86 → P4 168 i = M1 168 i := fun i hi => by rw [g4, pq_ne _ _ _ _ hi, o3 168 (by omega), o2 168 (by omega), o1 168 (by omega)]
                have mO4 : mrO P4 230 231 232 233 z C := by
                  unfold mrO mrC at *
                  rw [o14 230 (by omega) (by omega) (by omega) (by omega), o14 231 (by omega) (by omega) (by omega) (by omega), o14 232 (by omega) (by omega) (by omega) (by omega), o14 233 (by omega) (by omega) (by omega) (by omega)]
                  exact w1
                have T4 := B147 P4 (mlF_t f1 ⟨fun c c1 c2 c3 c4 => o14 c c1 (by omega) (by omega) (by omega), fun i _ _ _ i4 => n4 i i4⟩) mO4 ?_
                · rw [g4, g3] at T4
                  exact T4
                · rw [eX]
                  refine ⟨?_, fun i p hp => ?_⟩
                  · rw [g4, pq_at, v3, x86, List.length_append]
                    rfl
                  · by_cases ci : i < (lX s).length
                    · rw [List.getElem?_append_left ci] at hp
                      have q := xA.2 i p hp
                      rw [o4 235 (by omega), o3 235 (by omega), o2 235 (by omega), g1, pq_ne _ _ _ _ (by omega), o4 236 (by omega), o3 236 (by omega), g2, pq_ne _ _ _ _ (by omega), o1 236 (by omega), o4 237 (by omega), g3, pq_ne _ _ _ _ (by omega), o2 237 (by omega), o1 237 (by omega)]
                      exact q
                    · have ei : i = (lX s).length := by
                        have := (List.getElem?_eq_some_iff.1 hp).1
                        rw [List.length_append] at this
                        have l1 : ([(((C.length : Nat) : Int) - R.length, ((clG z C 0 (C.length / 8192)).length : Int), j)] : List (Int × Int × Nat)).length = 1 := rfl
                        omega
                      rw [ei, List.getElem?_append_right (Nat.le_refl _), Nat.sub_self] at hp
                      have ep := Option.some.inj hp
                      rw [← ep, ei]
                      refine ⟨?_, ?_, ?_⟩
                      · rw [o4 235 (by omega), o3 235 (by omega), o2 235 (by omega), g1, ← x86, pq_at, RL]
                      · rw [o4 236 (by omega), o3 236 (by omega), g2, ← x86, ← v86, pq_at]
                      · rw [o4 237 (by omega), g3, ← x86, ← v2, pq_at]
              rw [g2] at T2
              exact T2
            rw [g1] at T1
            exact T1
      rw [e1, vst]
      exact T70
  refine m308 [fx 168, ti f, ti (f + n)] ?_
  obtain ⟨P, gP⟩ : ∃ P : FM, P = pq M 168 86 0 := ⟨_, rfl⟩
  have po : ∀ c : Nat, c ≠ 168 → P c = M c := fun c hc => by rw [gP, pq_o _ _ _ hc]
  have F := LOOP (n + 1) 0 P (-1) none none none none none (by omega) (by omega) ⟨fun c c1 _ _ _ => po c c1, fun i _ _ _ i4 => by rw [gP, pq_ne _ _ _ _ i4]⟩ ?_ (fun _ => rfl) (fun q => by omega) (fun _ => Or.inl rfl) (by show 0 ≤ 8; omega) (fun p hp => absurd hp List.not_mem_nil) ⟨by rw [gP, pq_at]; rfl, fun i p hp => by cases hp⟩
  · rw [show f + ((0 : Nat) : Int) = f by omega, gP] at F
    exact F
  · show mrO P 230 231 232 233 z R
    unfold mrO mrC at *
    rw [po 230 (by omega), po 231 (by omega), po 232 (by omega), po 233 (by omega)]
    exact hQ
end MLISTING
