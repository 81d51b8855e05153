/-! MOUNTING: the tree; one spec for both sides -/
def lnK (g : Int → Int) (p : Int) : Int := if le g p 2 = 2 then 1 else if le g p 2 = 1 then le g (p + 20) 4 else if le g p 2 = 9 then le g (p + 40) 4 else le g (p + 16) 4
def paF (g pl : Int → Int) : Int → Int := fun j => le g (pl j + 28) 4
def rcK (t : Int → Int) (r : Int) : Nat → Int → Prop
  | 0, a => a = r
  | k + 1, a => a = r ∨ rcK t r k (t a)
def tdP (g pl : Int → Int) (n r : Int) (kd t ho fo : Int → Int) (j : Int) : Prop := lnK g (pl j) = (if kd j = 1 then fo j + 2 else t j) ∧ (kd j = 1 → j = r → t j = 0 ∧ paF g pl j = n + 1) ∧ (kd j = 1 → j ≠ r → t j = 1 ∧ paF g pl j = ho j ∧ rcK ho r 100 j) ∧ (kd j ≠ 1 → t j ≠ 0)
def trP (g pl : Int → Int) (n r : Int) (kd t ho fo : Int → Int) : Prop := (r ≠ 0 ∧ kd r = 1) ∧ ∀ j : Int, 1 ≤ j → j ≤ n → tdP g pl n r kd t ho fo j
theorem wk_len {IS : List Int} {lg : Int → Int} {e : Int} : ∀ (E : List (Int × Int)) (a l hd : Int), wkL IS lg e a l hd E → a + 9 * E.length ≤ e
  | [], a, l, hd, h => by
    have := h.1
    simp only [List.length_nil]
    omega
  | q :: r, a, l, hd, h => by
    obtain ⟨l2, n1, n2, n3⟩ := h
    have := wk_len r _ _ _ n3
    have := nxH_r n1
    have := le_nn lg 2 (q.2 + 6)
    simp only [List.length_cons]
    omega
theorem ur_le {t : Int → Int} {c x j : Int} (h : t c ≤ x) : t j ≤ ur t c x j := by
  unfold ur
  split
  · rename_i e
    rw [e]
    exact h
  · exact Int.le_refl _
theorem ur_le1 {t : Int → Int} {c j : Int} : ur t c (t c + 1) j ≤ t j + 1 := by
  unfold ur
  split
  · rename_i e
    rw [e]
    exact Int.le_refl _
  · omega
theorem tiL_r {lg : Int → Int} {j : Int} : ∀ (E : List (Int × Int)) (t : Int → Int), t j ≤ tiL lg E t j ∧ tiL lg E t j ≤ t j + E.length
  | [], t => ⟨Int.le_refl _, by show t j ≤ t j + _; simp only [List.length_nil]; omega⟩
  | q :: r, t => by
    have h := tiL_r (lg := lg) (j := j) r (ur t (chd lg q.1 q.2) (t (chd lg q.1 q.2) + 1))
    have h1 : t j ≤ ur t (chd lg q.1 q.2) (t (chd lg q.1 q.2) + 1) j := ur_le (by omega)
    have h2 : ur t (chd lg q.1 q.2) (t (chd lg q.1 q.2) + 1) j ≤ t j + 1 := ur_le1
    show t j ≤ tiL lg r (ur t (chd lg q.1 q.2) (t (chd lg q.1 q.2) + 1)) j ∧ tiL lg r (ur t (chd lg q.1 q.2) (t (chd lg q.1 q.2) + 1)) j ≤ _
    simp only [List.length_cons]
    omega
theorem foL_r {lg kd : Int → Int} {f j : Int} : ∀ (E : List (Int × Int)) (t : Int → Int), t j ≤ foL lg kd f E t j ∧ foL lg kd f E t j ≤ t j + E.length
  | [], t => ⟨Int.le_refl _, by show t j ≤ t j + _; simp only [List.length_nil]; omega⟩
  | q :: r, t => by
    have h := foL_r (lg := lg) (kd := kd) (f := f) (j := j) r (if kd (chd lg q.1 q.2) = 1 then ur t f (t f + 1) else t)
    have h1 : t j ≤ (if kd (chd lg q.1 q.2) = 1 then ur t f (t f + 1) else t) j := by
      split
      · exact ur_le (by omega)
      · exact Int.le_refl _
    have h2 : (if kd (chd lg q.1 q.2) = 1 then ur t f (t f + 1) else t) j ≤ t j + 1 := by
      split
      · exact ur_le1
      · omega
    show t j ≤ foL lg kd f r (if kd (chd lg q.1 q.2) = 1 then ur t f (t f + 1) else t) j ∧ foL lg kd f r (if kd (chd lg q.1 q.2) = 1 then ur t f (t f + 1) else t) j ≤ _
    simp only [List.length_cons]
    omega
theorem hoL_r {lg : Int → Int} {f N : Int} (hf : 0 ≤ f ∧ f ≤ N) : ∀ (E : List (Int × Int)) (t : Int → Int), (∀ j : Int, 0 ≤ t j ∧ t j ≤ N) → ∀ j : Int, 0 ≤ hoL lg f E t j ∧ hoL lg f E t j ≤ N
  | [], t, h => h
  | q :: r, t, h => hoL_r hf r _ (fun j => by
      unfold ur
      split
      · exact hf
      · exact h j)
section COUNTS
variable {lg kd : Int → Int} {Ef : Int → List (Int × Int)}
theorem tiA_r {n : Int} (hE : ∀ f : Int, 1 ≤ f → f ≤ n → kd f = 1 → (Ef f).length ≤ 65536) : ∀ (m : Nat), m ≤ n → ∀ j : Int, 0 ≤ tiA lg kd Ef m j ∧ tiA lg kd Ef m j ≤ 65536 * m
  | 0, _, j => by
    show (0 : Int) ≤ 0 ∧ (0 : Int) ≤ _
    omega
  | m + 1, hm, j => by
    have ih := tiA_r hE m (by omega) j
    have e : tiA lg kd Ef (m + 1) = if kd (m + 1) = 1 then tiL lg (Ef (m + 1)) (tiA lg kd Ef m) else tiA lg kd Ef m := rfl
    rw [e]
    split
    · rename_i c
      have h1 := tiL_r (lg := lg) (j := j) (Ef (m + 1)) (tiA lg kd Ef m)
      have h2 := hE (m + 1) (by omega) (by omega) c
      omega
    · omega
theorem foA_r {n : Int} (hE : ∀ f : Int, 1 ≤ f → f ≤ n → kd f = 1 → (Ef f).length ≤ 65536) : ∀ (m : Nat), m ≤ n → ∀ j : Int, 0 ≤ foA lg kd Ef m j ∧ foA lg kd Ef m j ≤ 65536 * m
  | 0, _, j => by
    show (0 : Int) ≤ 0 ∧ (0 : Int) ≤ _
    omega
  | m + 1, hm, j => by
    have ih := foA_r hE m (by omega) j
    have e : foA lg kd Ef (m + 1) = if kd (m + 1) = 1 then foL lg kd (m + 1) (Ef (m + 1)) (foA lg kd Ef m) else foA lg kd Ef m := rfl
    rw [e]
    split
    · rename_i c
      have h1 := foL_r (lg := lg) (kd := kd) (f := m + 1) (j := j) (Ef (m + 1)) (foA lg kd Ef m)
      have h2 := hE (m + 1) (by omega) (by omega) c
      omega
    · omega
theorem hoA_r : ∀ (m : Nat) (N : Int), m ≤ N → ∀ j : Int, 0 ≤ hoA lg kd Ef m j ∧ hoA lg kd Ef m j ≤ N
  | 0, N, h, j => by
    show (0 : Int) ≤ 0 ∧ (0 : Int) ≤ _
    omega
  | m + 1, N, h, j => by
    have ih := hoA_r m N (by omega)
    have e : hoA lg kd Ef (m + 1) = if kd (m + 1) = 1 then hoL lg (m + 1) (Ef (m + 1)) (hoA lg kd Ef m) else hoA lg kd Ef m := rfl
    rw [e]
    split
    · exact hoL_r (by omega) _ _ ih j
    · exact ih j
/-- what counts of ties and homes say of the pairs (folder, child) that were counted -/
def hmI (S : Int → Int → Prop) (t ho : Int → Int) : Prop := ∀ j : Int, 0 ≤ t j ∧ (t j = 0 → ∀ f : Int, ¬ S f j) ∧ (1 ≤ t j → S (ho j) j) ∧ (t j = 1 → ∀ f : Int, S f j → f = ho j)
theorem hm_step {S : Int → Int → Prop} {t ho : Int → Int} (h : hmI S t ho) (f c : Int) : hmI (fun x y => S x y ∨ (x = f ∧ y = c)) (ur t c (t c + 1)) (ur ho c f) := by
  intro j
  obtain ⟨h1, h2, h3, h4⟩ := h j
  by_cases e : j = c
  · subst e
    rw [ur_at, ur_at]
    refine ⟨by omega, fun q => by omega, fun _ => Or.inr ⟨rfl, rfl⟩, fun q x hx => ?_⟩
    rcases hx with y | y
    · exact absurd y (h2 (by omega) x)
    · exact y.1
  · rw [ur_ne e, ur_ne e]
    refine ⟨h1, fun q x hx => ?_, fun q => Or.inl (h3 q), fun q x hx => ?_⟩
    · rcases hx with y | y
      · exact h2 q x y
      · exact e y.2
    · rcases hx with y | y
      · exact h4 q x y
      · exact absurd y.2 e
theorem hm_cg {S S2 : Int → Int → Prop} {t ho : Int → Int} (h : hmI S t ho) (e : ∀ x y : Int, S x y ↔ S2 x y) : hmI S2 t ho := by
  intro j
  obtain ⟨h1, h2, h3, h4⟩ := h j
  exact ⟨h1, fun q x hx => h2 q x ((e x j).2 hx), fun q => (e _ j).1 (h3 q), fun q x hx => h4 q x ((e x j).2 hx)⟩
theorem hmL {f : Int} : ∀ (E : List (Int × Int)) (S : Int → Int → Prop) (t ho : Int → Int), hmI S t ho → hmI (fun x y => S x y ∨ (x = f ∧ ∃ q : Int × Int, q ∈ E ∧ chd lg q.1 q.2 = y)) (tiL lg E t) (hoL lg f E ho)
  | [], S, t, ho, h => hm_cg h (fun x y => ⟨Or.inl, fun z => by
      rcases z with z | ⟨_, q, q1, _⟩
      · exact z
      · cases q1⟩)
  | q :: r, S, t, ho, h => by
    have := hmL (f := f) r _ _ _ (hm_step h f (chd lg q.1 q.2))
    refine hm_cg this (fun x y => ⟨fun z => ?_, fun z => ?_⟩)
    · rcases z with (z | z) | ⟨z1, q2, z2, z3⟩
      · exact Or.inl z
      · exact Or.inr ⟨z.1, q, List.mem_cons_self, z.2.symm⟩
      · exact Or.inr ⟨z1, q2, List.mem_cons_of_mem _ z2, z3⟩
    · rcases z with z | ⟨z1, q2, z2, z3⟩
      · exact Or.inl (Or.inl z)
      · rcases List.mem_cons.1 z2 with y | y
        · refine Or.inl (Or.inr ⟨z1, ?_⟩)
          rw [← z3, y]
        · exact Or.inr ⟨z1, q2, y, z3⟩
/-- the pairs of the folders 1 to m -/
def prS2 (lg kd : Int → Int) (Ef : Int → List (Int × Int)) (m x y : Int) : Prop := (1 ≤ x ∧ x ≤ m ∧ kd x = 1) ∧ ∃ q : Int × Int, q ∈ Ef x ∧ chd lg q.1 q.2 = y
theorem hmA : ∀ m : Nat, hmI (prS2 lg kd Ef m) (tiA lg kd Ef m) (hoA lg kd Ef m)
  | 0 => fun j => by
    show (0 : Int) ≤ 0 ∧ _ ∧ ((1 : Int) ≤ 0 → _) ∧ ((0 : Int) = 1 → _)
    refine ⟨Int.le_refl _, fun _ f hf => ?_, fun q => by omega, fun q => by omega⟩
    have := hf.1
    omega
  | m + 1 => by
    have ih := hmA m
    have e1 : tiA lg kd Ef (m + 1) = if kd (m + 1) = 1 then tiL lg (Ef (m + 1)) (tiA lg kd Ef m) else tiA lg kd Ef m := rfl
    have e2 : hoA lg kd Ef (m + 1) = if kd (m + 1) = 1 then hoL lg (m + 1) (Ef (m + 1)) (hoA lg kd Ef m) else hoA lg kd Ef m := rfl
    by_cases c : kd (m + 1) = 1
    · rw [if_pos c] at e1 e2
      rw [e1, e2]
      refine hm_cg (hmL (f := m + 1) (Ef (m + 1)) _ _ _ ih) (fun x y => ⟨fun z => ?_, fun z => ?_⟩)
      · rcases z with ⟨z1, z2⟩ | ⟨z1, z2⟩
        · exact ⟨by omega, z2⟩
        · rw [z1]
          exact ⟨⟨by omega, by omega, c⟩, z2⟩
      · obtain ⟨z1, z2⟩ := z
        by_cases c2 : x = m + 1
        · rw [c2] at z2
          exact Or.inr ⟨c2, z2⟩
        · exact Or.inl ⟨by omega, z2⟩
    · rw [if_neg c] at e1 e2
      rw [e1, e2]
      refine hm_cg ih (fun x y => ⟨fun z => ⟨by have := z.1; omega, z.2⟩, fun z => ⟨?_, z.2⟩⟩)
      obtain ⟨⟨z1, z2, z3⟩, -⟩ := z
      by_cases c2 : x = m + 1
      · rw [c2] at z3
        exact absurd z3 c
      · exact ⟨z1, by omega, z3⟩
end COUNTS
/-- the reference's way -/
def rcR (pa kd : Int → Int) (n r : Int) : Nat → Int → Prop
  | 0, a => a = r
  | k + 1, a => a = r ∨ ((1 ≤ a ∧ a ≤ n ∧ kd a = 1) ∧ rcR pa kd n r k (pa a))
def mnP (g pl : Int → Int) (n r : Int) (kd t fo : Int → Int) (j : Int) : Prop := (if j = r then t j = 0 else if kd j = 1 then t j = 1 else 0 < t j) ∧ lnK g (pl j) = (if kd j = 1 then 2 + fo j else t j) ∧ (kd j = 1 → rcR (paF g pl) kd n r 100 j)
def mtP (g pl : Int → Int) (n r : Int) (kd t fo : Int → Int) (S : Int → Int → Prop) : Prop := (r ≠ 0 ∧ kd r = 1 ∧ paF g pl r = n + 1) ∧ (∀ f c : Int, S f c → kd c = 1 → paF g pl c = f) ∧ ∀ j : Int, 1 ≤ j → j ≤ n → mnP g pl n r kd t fo j
theorem rc_eq {pa kd ho : Int → Int} {n r : Int} (H : ∀ j : Int, 1 ≤ j → j ≤ n → kd j = 1 → j ≠ r → pa j = ho j ∧ (1 ≤ ho j ∧ ho j ≤ n ∧ kd (ho j) = 1)) : ∀ (k : Nat) (a : Int), (1 ≤ a ∧ a ≤ n ∧ kd a = 1) → (rcK ho r k a ↔ rcR pa kd n r k a)
  | 0, a, _ => Iff.rfl
  | k + 1, a, h => by
    show (a = r ∨ rcK ho r k (ho a)) ↔ (a = r ∨ ((1 ≤ a ∧ a ≤ n ∧ kd a = 1) ∧ rcR pa kd n r k (pa a)))
    by_cases c : a = r
    · exact ⟨fun _ => Or.inl c, fun _ => Or.inl c⟩
    · obtain ⟨h1, h2⟩ := H a h.1 h.2.1 h.2.2 c
      have ih := rc_eq H k (ho a) h2
      rw [h1]
      constructor
      · rintro (z | z)
        · exact absurd z c
        · exact Or.inr ⟨h, ih.1 z⟩
      · rintro (z | z)
        · exact absurd z c
        · exact Or.inr (ih.2 z.2)
theorem rcK_cg {t u : Int → Int} {r n : Int} (h : ∀ j : Int, 0 ≤ j → j ≤ n → t j = u j ∧ 0 ≤ t j ∧ t j ≤ n) : ∀ (k : Nat) (a : Int), (0 ≤ a ∧ a ≤ n) → (rcK t r k a ↔ rcK u r k a)
  | 0, _, _ => Iff.rfl
  | k + 1, a, ha => by
    obtain ⟨h1, h2, h3⟩ := h a ha.1 ha.2
    have ih := rcK_cg (r := r) h k (t a) ⟨h2, h3⟩
    show (a = r ∨ rcK t r k (t a)) ↔ (a = r ∨ rcK u r k (u a))
    rw [← h1, ih]
theorem mt_tr {g pl : Int → Int} {n r : Int} {kd t ho fo : Int → Int} {S : Int → Int → Prop} (hm : hmI S t ho) (hS : ∀ f c : Int, S f c → (1 ≤ f ∧ f ≤ n ∧ kd f = 1) ∧ 1 ≤ c ∧ c ≤ n) (hr : 0 ≤ r ∧ r ≤ n) : mtP g pl n r kd t fo S ↔ trP g pl n r kd t ho fo := by
  constructor
  · rintro ⟨⟨m1, m2, m3⟩, m4, m5⟩
    have H : ∀ j : Int, 1 ≤ j → j ≤ n → kd j = 1 → j ≠ r → paF g pl j = ho j ∧ (1 ≤ ho j ∧ ho j ≤ n ∧ kd (ho j) = 1) := by
      intro j h1 h2 h3 h4
      have q := (m5 j h1 h2).1
      rw [if_neg h4, if_pos h3] at q
      have s := (hm j).2.2.1 (by omega)
      exact ⟨m4 _ _ s h3, (hS _ _ s).1⟩
    refine ⟨⟨m1, m2⟩, fun j h1 h2 => ?_⟩
    obtain ⟨q1, q2, q3⟩ := m5 j h1 h2
    refine ⟨?_, fun k1 k2 => ?_, fun k1 k2 => ?_, fun k1 => ?_⟩
    · rw [q2]
      split
      · exact Int.add_comm _ _
      · rfl
    · rw [if_pos k2] at q1
      exact ⟨q1, by rw [k2]; exact m3⟩
    · rw [if_neg k2, if_pos k1] at q1
      exact ⟨q1, (H j h1 h2 k1 k2).1, (rc_eq H 100 j ⟨h1, h2, k1⟩).2 (q3 k1)⟩
    · have k2 : j ≠ r := fun e => k1 (by rw [e]; exact m2)
      rw [if_neg k2, if_neg k1] at q1
      omega
  · rintro ⟨⟨m1, m2⟩, m5⟩
    have H : ∀ j : Int, 1 ≤ j → j ≤ n → kd j = 1 → j ≠ r → paF g pl j = ho j ∧ (1 ≤ ho j ∧ ho j ≤ n ∧ kd (ho j) = 1) := by
      intro j h1 h2 h3 h4
      obtain ⟨q1, q2, -⟩ := (m5 j h1 h2).2.2.1 h3 h4
      exact ⟨q2, (hS _ _ ((hm j).2.2.1 (by omega))).1⟩
    have R := (m5 r (by omega) hr.2).2.1 m2 rfl
    refine ⟨⟨m1, m2, R.2⟩, fun f c hs hc => ?_, fun j h1 h2 => ?_⟩
    · obtain ⟨s1, s2⟩ := hS f c hs
      by_cases e : c = r
      · rw [e] at hs
        exact absurd hs ((hm r).2.1 R.1 f)
      · obtain ⟨q1, q2, -⟩ := (m5 c s2.1 s2.2).2.2.1 hc e
        rw [q2]
        exact ((hm c).2.2.2 q1 f hs).symm
    · obtain ⟨q1, q2, q3, q4⟩ := m5 j h1 h2
      refine ⟨?_, ?_, fun k1 => ?_⟩
      · by_cases e : j = r
        · rw [if_pos e, e]
          exact R.1
        · rw [if_neg e]
          by_cases k1 : kd j = 1
          · rw [if_pos k1]
            exact (q3 k1 e).1
          · rw [if_neg k1]
            have := q4 k1
            have := (hm j).1
            omega
      · rw [q1]
        split
        · exact Int.add_comm _ _
        · rfl
      · by_cases e : j = r
        · exact Or.inl e
        · exact (rc_eq H 100 j ⟨h1, h2, k1⟩).1 (q3 k1 e).2.2
