/-! UNPACKING: a whole row, what both compute; the class's check -/
def adS (ab : Int × Int) (x : Int) : Int × Int := ((ab.1 + x) % 65521, (ab.2 + (ab.1 + x) % 65521) % 65521)
def ad (o : List Int) : Int × Int := o.foldl adS (1, 0)
def adV (o : List Int) : Int := (ad o).2 * 65536 + (ad o).1
theorem ad_back (o : List Int) (x : Int) : ad (o ++ [x]) = adS (ad o) x := by
  unfold ad
  rw [List.foldl_append]
  rfl
theorem ad_rng (o : List Int) : (0 ≤ (ad o).1 ∧ (ad o).1 < 65521) ∧ (0 ≤ (ad o).2 ∧ (ad o).2 < 65521) := by
  have h : ∀ (o : List Int) (ab : Int × Int), ((0 ≤ ab.1 ∧ ab.1 < 65521) ∧ (0 ≤ ab.2 ∧ ab.2 < 65521)) → ((0 ≤ (o.foldl adS ab).1 ∧ (o.foldl adS ab).1 < 65521) ∧ (0 ≤ (o.foldl adS ab).2 ∧ (o.foldl adS ab).2 < 65521)) := by
    intro o
    induction o with
    | nil => intro ab h; exact h
    | cons x o ih =>
      intro ab h
      refine ih (adS ab x) ?_
      unfold adS
      dsimp only
      omega
  exact h o (1, 0) (by decide)
def tld (f : Int → Int) (q : Int) : Int := f q % 256 * 16777216 + f (q + 1) % 256 * 65536 + f (q + 2) % 256 * 256 + f (q + 3) % 256
def fxA (s : Int) : Int := if s < 144 then 8 else if s < 256 then 9 else if s < 280 then 7 else 8
def fxB (_ : Int) : Int := 5
/-- if, of whatever can be said -/
noncomputable def cif {α : Type} (P : Prop) (a b : α) : α := @ite α P (Classical.propDecidable P) a b
theorem cif_pos {α : Type} {P : Prop} {a b : α} (h : P) : cif P a b = a := if_pos h
theorem cif_neg {α : Type} {P : Prop} {a b : α} (h : ¬ P) : cif P a b = b := if_neg h
noncomputable def dyS (f : Int → Int) (E W mo : Int) (G : Nat) (p : Int) (o : List Int) : St :=
  cif (teK f E p) (match tlG f E (tlS f (p + 14) (teC f p)) (teH f p + teD f p) G (p + 14 + 3 * teC f p) 0 (fun _ => 0) with
    | none => none
    | some (p2, r) => cif (0 < r 256 ∧ okL r (teH f p).toNat 0 ∧ okL (fun s => r (teH f p + s)) (teD f p).toNat 1) (smG f E r (teH f p).toNat (fun s => r (teH f p + s)) (teD f p).toNat W mo G p2 o) none) none
/-- a block -/
noncomputable def bkS (f : Int → Int) (E W mo : Int) (G : Nat) (p : Int) (o : List Int) : St :=
  if bv f p 2 = 0 then stS f E mo (p + 2) o else if bv f p 2 = 1 then smG f E fxA 288 fxB 32 W mo G (p + 2) o else if bv f p 2 = 2 then dyS f E W mo G (p + 2) o else none
noncomputable def blG (f : Int → Int) (E W mo : Int) (G : Nat) : Nat → Int → List Int → St
  | 0, _, _ => none
  | g + 1, p, o => if p + 3 ≤ E then (match bkS f E W mo G (p + 1) o with
    | none => none
    | some (p2, o2) => if bv f p 1 = 1 then some (p2, o2) else blG f E W mo G g p2 o2) else none
/-- a row of n bytes from a on, made to mo bytes at the most -/
noncomputable def unS (f : Int → Int) (a n mo : Int) : Option (List Int) :=
  if 2 ≤ n ∧ (256 * (f a % 256) + f (a + 1) % 256) % 31 = 0 ∧ f a % 256 % 16 = 8 ∧ f a % 256 / 16 ≤ 7 ∧ f (a + 1) % 256 / 32 % 2 = 0 then (match blG f (8 * (a + n)) (256 * 2 ^ (f a % 256 / 16).toNat) mo ((8 * (a + n)).toNat + 1) ((8 * (a + n)).toNat + 1) (8 * (a + 2)) [] with
    | none => none
    | some (p, o) => if (p + 7) / 8 * 8 = 8 * (a + n) - 32 ∧ tld f ((p + 7) / 8) = adV o then some o else none) else none
theorem smG_adv {f : Int → Int} {E : Int} {la : Int → Int} {na : Nat} {lb : Int → Int} {nb : Nat} {W mo p2 : Int} {o2 : List Int} : ∀ (g : Nat) (p : Int) (o : List Int), smG f E la na lb nb W mo g p o = some (p2, o2) → p < p2 ∧ p2 ≤ E
  | 0, p, o, h => by cases h
  | g + 1, p, o, h => by
    cases hs : sy f E la na p with
    | none =>
      have h2 : (match sy f E la na p with
        | none => none
        | some (s, p1) => _) = some (p2, o2) := h
      rw [hs] at h2
      cases h2
    | some q =>
      obtain ⟨s, p1⟩ := q
      have r := sy_rng hs
      have ec : smG f E la na lb nb W mo (g + 1) p o = if s = 256 then some (p1, o) else if s < 256 then (if (o.length : Int) < mo then smG f E la na lb nb W mo g p1 (o ++ [s]) else none) else match smL f E lb nb W mo s p1 o with
          | none => none
          | some (p4, o4) => smG f E la na lb nb W mo g p4 o4 := by
        show (match sy f E la na p with
          | none => none
          | some (s, p1) => _) = _
        rw [hs]
        rfl
      rw [ec] at h
      by_cases c1 : s = 256
      · rw [if_pos c1] at h
        injection h with h
        injection h with h1 h2
        omega
      · rw [if_neg c1] at h
        by_cases c2 : s < 256
        · rw [if_pos c2] at h
          by_cases c3 : (o.length : Int) < mo
          · rw [if_pos c3] at h
            have := smG_adv g p1 _ h
            omega
          · rw [if_neg c3] at h
            cases h
        · rw [if_neg c2] at h
          cases h7 : smL f E lb nb W mo s p1 o with
          | none =>
            rw [h7] at h
            cases h
          | some r5 =>
            obtain ⟨p4, o4⟩ := r5
            rw [h7] at h
            have ad := smL_adv (by omega) h7
            have h' : smG f E la na lb nb W mo g p4 o4 = some (p2, o2) := h
            have := smG_adv g p4 o4 h'
            omega
theorem tlP_adv {f : Int → Int} {E t p1 i v n p2 : Int} {r : Int → Int} (h : tlP f E t p1 i r = some (v, n, p2)) : p1 ≤ p2 ∧ 1 ≤ n := by
  unfold tlP at h
  have b2 := (bv_rng f p1 2).1
  have b3 := (bv_rng f p1 3).1
  have b7 := (bv_rng f p1 7).1
  split at h
  · injection h with h
    injection h with h1 h2
    injection h2 with h2 h3
    omega
  · split at h
    · split at h
      · cases h
      · split at h
        · injection h with h
          injection h with h1 h2
          injection h2 with h2 h3
          omega
        · cases h
    · split at h
      · split at h
        · injection h with h
          injection h with h1 h2
          injection h2 with h2 h3
          omega
        · cases h
      · split at h
        · injection h with h
          injection h with h1 h2
          injection h2 with h2 h3
          omega
        · cases h
theorem tlG_adv {f : Int → Int} {E : Int} {tl : Int → Int} {all p2 : Int} {r2 : Int → Int} : ∀ (g : Nat) (p i : Int) (r : Int → Int), tlG f E tl all g p i r = some (p2, r2) → p ≤ p2
  | 0, p, i, r, h => by cases h
  | g + 1, p, i, r, h => by
    have h0 : (if all ≤ i then some (p, r) else match sy f E tl 19 p with
      | none => none
      | some (t, p1) => match tlP f E t p1 i r with
        | none => none
        | some (v, n, p2) => if i + n ≤ all then tlG f E tl all g p2 (i + n) (fillU r i n v) else none) = some (p2, r2) := h
    by_cases c1 : all ≤ i
    · rw [if_pos c1] at h0
      injection h0 with h0
      injection h0 with h1 h2
      omega
    · rw [if_neg c1] at h0
      cases hs : sy f E tl 19 p with
      | none =>
        rw [hs] at h0
        cases h0
      | some q =>
        obtain ⟨t, p1⟩ := q
        have r0 := sy_rng hs
        rw [hs] at h0
        have h1 : (match tlP f E t p1 i r with
          | none => none
          | some (v, n, p2) => if i + n ≤ all then tlG f E tl all g p2 (i + n) (fillU r i n v) else none) = some (p2, r2) := h0
        cases ht : tlP f E t p1 i r with
        | none =>
          rw [ht] at h1
          cases h1
        | some q2 =>
          obtain ⟨v, n, p3⟩ := q2
          rw [ht] at h1
          have h2 : (if i + n ≤ all then tlG f E tl all g p3 (i + n) (fillU r i n v) else none) = some (p2, r2) := h1
          have ta := tlP_adv ht
          by_cases c2 : i + n ≤ all
          · rw [if_pos c2] at h2
            have := tlG_adv g p3 _ _ h2
            omega
          · rw [if_neg c2] at h2
            cases h2
theorem bkS_adv {f : Int → Int} {E W mo p p2 : Int} {G : Nat} {o o2 : List Int} (h : bkS f E W mo G p o = some (p2, o2)) : p + 2 < p2 ∧ p2 ≤ E := by
  unfold bkS at h
  by_cases c1 : bv f p 2 = 0
  · rw [if_pos c1] at h
    unfold stS at h
    have b := (bv_rng f ((p + 2 + 7) / 8 * 8) 16).1
    split at h
    · rename_i hc
      injection h with h
      injection h with h1 h2
      omega
    · cases h
  · rw [if_neg c1] at h
    by_cases c2 : bv f p 2 = 1
    · rw [if_pos c2] at h
      exact smG_adv G _ _ h
    · rw [if_neg c2] at h
      by_cases c3 : bv f p 2 = 2
      · rw [if_pos c3] at h
        unfold dyS at h
        by_cases c4 : teK f E (p + 2)
        · rw [cif_pos c4] at h
          have hc : 0 ≤ teC f (p + 2) := by
            unfold teC
            have := (bv_rng f (p + 2 + 10) 4).1
            omega
          cases ht : tlG f E (tlS f (p + 2 + 14) (teC f (p + 2))) (teH f (p + 2) + teD f (p + 2)) G (p + 2 + 14 + 3 * teC f (p + 2)) 0 (fun _ => 0) with
          | none =>
            rw [ht] at h
            cases h
          | some q =>
            obtain ⟨p3, r⟩ := q
            rw [ht] at h
            have ta := tlG_adv _ _ _ _ ht
            dsimp only at h
            by_cases c5 : 0 < r 256 ∧ okL r (teH f (p + 2)).toNat 0 ∧ okL (fun s => r (teH f (p + 2) + s)) (teD f (p + 2)).toNat 1
            · rw [cif_pos c5] at h
              have := smG_adv G _ _ h
              omega
            · rw [cif_neg c5] at h
              cases h
        · rw [cif_neg c4] at h
          cases h
      · rw [if_neg c3] at h
        cases h
section UCHECK
variable {d nx zl : Nat} {K : Option TV → FH → Prop} {sh : Nat → Option Shp} {M : FM}
theorem check_Y {a na : Nat} {p n : Int} (ha : shp sh a = some (.inl (.byte, na))) (hna : na ≤ 131072) (hp : 0 ≤ p) (hn : 0 ≤ n) (hpn : p + n ≤ na) (k : K (some (ti (s32 (adV (sl (M a) p n.toNat))))) (sh, M, nx, zl)) : fm_Y (d + 1) 100 [.ref a, .int (Int32.ofInt p), .int (Int32.ofInt n)] (sh, M, nx, zl) K := by
  refine m100 [gr a, ti p, ti n] ?_
  have L : ∀ (N j : Nat), n.toNat - j < N → j ≤ n.toNat → fm_X d kd100 8 [some (gr a), some (ti p), some (ti n), some (ti (ad (sl (M a) p j)).1), some (ti (ad (sl (M a) p j)).2), some (ti (p + j))] [] (sh, M, nx, zl) K := by
    intro N
    induction N with
    | zero => intro j h1; omega
    | succ N ih =>
      intro j h1 h2
      have r := ad_rng (sl (M a) p j)
      refine s100_8 d K _ _ _ ?_
      refine ⟨by omega, fun w => ?_, fun w => ?_⟩
      · have ej : j = n.toNat := by omega
        subst ej
        refine ⟨_, ?_, k⟩
        rw [i32_or2 (k := 16) (by omega) (p := 65536) rfl rfl r.1.1 (by omega)]
        refine i32_eqI ?_
        unfold adV s32
        omega
      · refine ⟨na, ha, by omega, ?_⟩
        refine ⟨by omega, ?_⟩
        refine ⟨by omega, ?_⟩
        have z := ih (j + 1) (by omega) (by omega)
        have e : ad (sl (M a) p (j + 1)) = adS (ad (sl (M a) p j)) (M a (p + j) % 256) := by rw [sl_back, ad_back]
        rw [e, show p + ((j + 1 : Nat) : Int) = p + j + 1 by omega] at z
        exact z
  have z := L (n.toNat + 1) 0 (by omega) (by omega)
  rw [show p + ((0 : Nat) : Int) = p by omega] at z
  exact z
theorem checkHolds_Y {sc nS : Nat} {c q : Int} (hs : shp sh sc = some (.inl (.byte, nS))) (h0 : M 129 0 = sc) (h1 : M 129 1 = 8 * q) (hq : 0 ≤ q ∧ q + 4 ≤ nS) (hnS : nS ≤ 131072) (hc : 0 ≤ c ∧ c < 4294967296) (k : ∀ z : Int, (z = 1 ∧ tld (M sc) q = c ∨ z = 0 ∧ tld (M sc) q ≠ c) → K (some (ti z)) (sh, M, nx, zl)) : fm_Y (d + 1) 153 [.ref 129, .int (Int32.ofInt (s32 c))] (sh, M, nx, zl) K := by
  refine m153 [fx 129, ti (s32 c)] ?_
  have e8 : M 129 1 / 8 = q := by omega
  refine ⟨by omega, ?_⟩
  refine ⟨fun m e => ?_, fun w => by omega⟩
  have em : m = sc := by omega
  subst em
  refine ⟨nS, hs, by omega, ?_⟩
  refine ⟨fun m2 e => ?_, fun w => by omega⟩
  have em : m2 = m := by omega
  subst em
  refine ⟨nS, hs, by omega, ?_⟩
  obtain ⟨x0, g0⟩ : ∃ x : Int, x = (M m2 (M 129 1 / 8) + 128) % 256 - 128 := ⟨_, rfl⟩
  obtain ⟨x1, g1⟩ : ∃ x : Int, x = M m2 (M 129 1 / 8 + 1) % 256 := ⟨_, rfl⟩
  refine ⟨(x0 * 256 + x1) * 65536, ?_, ?_⟩
  · rw [← g0, ← g1]
    exact i32_or2 (k := 24) (by omega) (p := 16777216) rfl (by omega) (by omega) (by omega)
  refine ⟨fun m3 e => ?_, fun w => by omega⟩
  have em : m3 = m2 := by omega
  subst em
  refine ⟨nS, hs, by omega, ?_⟩
  obtain ⟨x2, g2⟩ : ∃ x : Int, x = M m3 (M 129 1 / 8 + 2) % 256 := ⟨_, rfl⟩
  refine ⟨((x0 * 256 + x1) * 256 + x2) * 256, ?_, ?_⟩
  · rw [← g2]
    exact i32_or2 (k := 16) (by omega) (p := 65536) rfl (by omega) (by omega) (by omega)
  refine ⟨fun m4 e => ?_, fun w => by omega⟩
  have em : m4 = m3 := by omega
  subst em
  refine ⟨nS, hs, by omega, ?_⟩
  obtain ⟨x3, g3⟩ : ∃ x : Int, x = M m4 (M 129 1 / 8 + 3) % 256 := ⟨_, rfl⟩
  refine ⟨((x0 * 256 + x1) * 256 + x2) * 256 + x3, ?_, ?_⟩
  · rw [← g3]
    exact i32_or2 (k := 8) (by omega) (p := 256) rfl (by omega) (by omega) (by omega)
  have es := s32_r c
  have et : tld (M m4) q = ((x0 % 256 * 256 + x1) * 256 + x2) * 256 + x3 := by
    unfold tld
    rw [g0, g1, g2, g3, e8]
    omega
  have hx : ((x0 * 256 + x1) * 256 + x2) * 256 + x3 = s32 c ↔ tld (M m4) q = c := by
    rw [et]
    unfold s32
    omega
  refine ⟨by omega, fun w => ?_, fun w => ?_⟩
  · exact ⟨Or.inl rfl, k 0 (Or.inr ⟨rfl, fun z => w (hx.2 z)⟩)⟩
  · exact ⟨Or.inr rfl, k 1 (Or.inl ⟨rfl, hx.1 w⟩)⟩
end UCHECK
