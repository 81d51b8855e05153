/-! MOUNTING: listings; indexes looked for one by one are the same as indexes used up along the walk -/
def rfI (g lg : Int → Int) (LS : List Int) (b : Int) (E : List (Int × Int)) : Nat → Int → Int → Prop
  | 0, _, _ => True
  | k + 1, w, ix => w < le g ix 4 ∧ (b + le g ix 4, b + le g ix 4 + 12) ∈ E ∧ idP g lg LS (b + le g ix 4) (b + le g ix 4 + 12) ix ∧ rfI g lg LS b E k (le g ix 4) (ix + 13 + le g (ix + 8) 4)
def ascH : List (Int × Int) → Prop
  | [] => True
  | q :: r => (∀ x ∈ r, x.2 = x.1 + 12 → q.1 < x.1) ∧ ascH r
theorem rf_drop {g lg : Int → Int} {LS : List Int} {b : Int} {q : Int × Int} {r : List (Int × Int)} : ∀ (k : Nat) (w ix : Int), q.1 ≤ b + w → (rfI g lg LS b (q :: r) k w ix ↔ rfI g lg LS b r k w ix)
  | 0, _, _, _ => Iff.rfl
  | k + 1, w, ix, h => by
    constructor
    · rintro ⟨h1, h2, h3, h4⟩
      refine ⟨h1, ?_, h3, (rf_drop k _ _ (by omega)).1 h4⟩
      rcases List.mem_cons.1 h2 with y | y
      · have : b + le g ix 4 = q.1 := by rw [← y]
        omega
      · exact y
    · rintro ⟨h1, h2, h3, h4⟩
      exact ⟨h1, List.mem_cons_of_mem _ h2, h3, (rf_drop k _ _ (by omega)).2 h4⟩
theorem cs_rf {g lg : Int → Int} {LS : List Int} {b : Int} : ∀ (E : List (Int × Int)) (ix il w : Int), 0 ≤ il → 0 ≤ w → ascH E → (∀ x ∈ E, x.2 = x.1 + 12 → b < x.1 → b + w < x.1) → (csI g lg LS b E ix il ↔ rfI g lg LS b E il.toNat w ix)
  | [], ix, il, w, h0, hw, ha, hb => by
    constructor
    · intro e
      have e' : il = 0 := e
      rw [e']
      exact trivial
    · intro q
      show il = 0
      by_cases c : il = 0
      · exact c
      · obtain ⟨m, gm⟩ : ∃ m : Nat, il.toNat = m + 1 := ⟨il.toNat - 1, by omega⟩
        rw [gm] at q
        cases q.2.1
  | q :: r, ix, il, w, h0, hw, ha, hb => by
    have hb2 : ∀ x ∈ r, x.2 = x.1 + 12 → b < x.1 → b + w < x.1 := fun x hx => hb x (List.mem_cons_of_mem _ hx)
    by_cases c : ldP g b q.1 q.2 ix il
    · obtain ⟨⟨c1, c2⟩, c3, c4⟩ := id c
      obtain ⟨m, gm⟩ : ∃ m : Nat, il.toNat = m + 1 := ⟨il.toNat - 1, by omega⟩
      have e1 : b + le g ix 4 = q.1 := by omega
      have e2 : (b + le g ix 4, b + le g ix 4 + 12) = q := by
        rw [e1]
        exact Prod.ext rfl c1.symm
      have hq := hb q List.mem_cons_self c1 c2
      have IH := cs_rf (g := g) (lg := lg) (LS := LS) (b := b) r (ix + 13 + le g (ix + 8) 4) (il - 1) (le g ix 4) (by omega) (by omega) ha.2 (fun x hx h1 h2 => by
        have := ha.1 x hx h1
        omega)
      rw [show (il - 1).toNat = m by omega] at IH
      rw [gm]
      have DR := rf_drop (g := g) (lg := lg) (LS := LS) (b := b) (q := q) (r := r) m (le g ix 4) (ix + 13 + le g (ix + 8) 4) (by omega)
      constructor
      · rintro ⟨h1, -⟩
        obtain ⟨i1, i2⟩ := h1 c
        refine ⟨by omega, ?_, ?_, DR.2 (IH.1 i2)⟩
        · rw [e2]
          exact List.mem_cons_self
        · rw [e1, ← c1]
          exact i1
      · rintro ⟨h1, h2, h3, h4⟩
        refine ⟨fun _ => ⟨?_, IH.2 (DR.1 h4)⟩, fun z => absurd c z⟩
        rw [e1, ← c1] at h3
        exact h3
    · have IH := cs_rf (g := g) (lg := lg) (LS := LS) (b := b) r ix il w h0 hw ha.2 hb2
      have CS : csI g lg LS b (q :: r) ix il ↔ csI g lg LS b r ix il := ⟨fun z => z.2 c, fun z => ⟨fun y => absurd y c, fun _ => z⟩⟩
      rw [CS, IH]
      cases hm : il.toNat with
      | zero => exact Iff.rfl
      | succ m =>
        have NE : w < le g ix 4 → (b + le g ix 4, b + le g ix 4 + 12) ≠ q := by
          intro hw2 e
          have e1 : b + le g ix 4 = q.1 := by rw [← e]
          have e2 : b + le g ix 4 + 12 = q.2 := by rw [← e]
          exact c ⟨⟨by omega, by omega⟩, by omega, by omega⟩
        constructor
        · rintro ⟨h1, h2, h3, h4⟩
          have := ha.1 _ h2 rfl
          exact ⟨h1, List.mem_cons_of_mem _ h2, h3, (rf_drop m _ _ (by dsimp only at this; omega)).2 h4⟩
        · rintro ⟨h1, h2, h3, h4⟩
          have h5 : (b + le g ix 4, b + le g ix 4 + 12) ∈ r := by
            rcases List.mem_cons.1 h2 with y | y
            · exact absurd y (NE h1)
            · exact y
          have := ha.1 _ h5 rfl
          exact ⟨h1, h5, h3, (rf_drop m _ _ (by dsimp only at this; omega)).1 h4⟩
theorem wk_lead {IS : List Int} {lg : Int → Int} {e : Int} : ∀ (E : List (Int × Int)) (a l hd : Int), (l ≠ 0 → hd + 12 < a) → wkL IS lg e a l hd E → (∀ x ∈ E, x.2 = x.1 + 12 → a ≤ x.1) ∧ ascH E
  | [], _, _, _, _, _ => ⟨fun x hx => (by cases hx), trivial⟩
  | q :: r, a, l, hd, h, hw => by
    obtain ⟨l2, n1, n2, n3⟩ := hw
    have l6 := le_nn lg 2 (q.2 + 6)
    have E1 := n2.1
    have hq : q.1 + 12 ≤ q.2 ∧ a ≤ q.2 ∧ (q.2 = q.1 + 12 → a ≤ q.1) := by
      rcases n1 with z | z
      · have := h z.1
        omega
      · omega
    obtain ⟨i1, i2⟩ := wk_lead r (q.2 + 9 + le lg (q.2 + 6) 2) (l2 - 1) q.1 (fun _ => by omega) n3
    refine ⟨fun x hx hl => ?_, fun x hx hl => ?_, i2⟩
    · rcases List.mem_cons.1 hx with y | y
      · rw [y] at hl ⊢
        exact hq.2.2 hl
      · have := i1 x y hl
        omega
    · have := i1 x hx hl
      omega
theorem cs_rf0 {IS LS : List Int} {g lg : Int → Int} {b e ix il : Int} {E : List (Int × Int)} (hw : wkL IS lg e b 0 0 E) (h0 : 0 ≤ il) : csI g lg LS b E ix il ↔ rfI g lg LS b E il.toNat 0 ix :=
  cs_rf E ix il 0 h0 (Int.le_refl _) (wk_lead E b 0 0 (fun z => absurd rfl z) hw).2 (fun x _ _ h => by omega)
