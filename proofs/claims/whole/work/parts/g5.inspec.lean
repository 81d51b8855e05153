/-! MOUNTING: all inodes; what both answer -/
noncomputable def inG (g : Int → Int) (N B ids F n : Int) : Nat → Int → Int → (Int → Int) → (Int → Int) → Option ((Int → Int) × (Int → Int))
  | 0, _, _, _, _ => none
  | G + 1, p, c, pl, h => if N ≤ p then (if c = n then some (pl, h) else none) else cif (0 ≤ iE g N B ids F p ∧ (1 ≤ le g (p + 12) 4 ∧ le g (p + 12) 4 ≤ n) ∧ pl (le g (p + 12) 4) < 0) (inG g N B ids F n G (iE g N B ids F p) (c + 1) (ur pl (le g (p + 12) 4) p) (ur h p (le g (p + 12) 4))) none
noncomputable def inS (g : Int → Int) (N B ids F n : Int) : Option ((Int → Int) × (Int → Int)) := inG g N B ids F n (N.toNat + 1) 0 0 (fun _ => -1) (fun _ => 0)
def cnS (pl : Int → Int) : Nat → Int
  | 0 => 0
  | n + 1 => cnS pl n + (if 0 ≤ pl (n + 1) then 1 else 0)
theorem cnS_le (pl : Int → Int) : ∀ n : Nat, 0 ≤ cnS pl n ∧ cnS pl n ≤ n
  | 0 => ⟨Int.le_refl _, Int.le_refl _⟩
  | n + 1 => by
    have := cnS_le pl n
    show 0 ≤ cnS pl n + (if 0 ≤ pl (n + 1) then 1 else 0) ∧ cnS pl n + (if 0 ≤ pl (n + 1) then 1 else 0) ≤ ((n + 1 : Nat) : Int)
    split <;> omega
theorem cnS_full {pl : Int → Int} : ∀ n : Nat, cnS pl n = n → ∀ j : Int, 1 ≤ j → j ≤ n → 0 ≤ pl j
  | 0, _, j, h1, h2 => by omega
  | n + 1, h, j, h1, h2 => by
    have q := cnS_le pl n
    have h' : cnS pl n + (if 0 ≤ pl (n + 1) then 1 else 0) = ((n + 1 : Nat) : Int) := h
    by_cases c : 0 ≤ pl (n + 1)
    · rw [if_pos c] at h'
      by_cases e : j = n + 1
      · rw [e]
        exact c
      · exact cnS_full n (by omega) j h1 (by omega)
    · rw [if_neg c] at h'
      omega
theorem cnS_far {pl : Int → Int} {m x : Int} : ∀ n : Nat, (n : Int) < m → cnS (ur pl m x) n = cnS pl n
  | 0, _ => rfl
  | n + 1, h => by
    show cnS (ur pl m x) n + (if 0 ≤ ur pl m x (n + 1) then 1 else 0) = cnS pl n + (if 0 ≤ pl (n + 1) then 1 else 0)
    rw [cnS_far n (by omega), ur_ne (by omega)]
theorem cnS_ur {pl : Int → Int} {m x : Int} (hx : 0 ≤ x) (hm : 1 ≤ m) (hn : pl m < 0) : ∀ n : Nat, m ≤ n → cnS (ur pl m x) n = cnS pl n + 1
  | 0, h => by omega
  | n + 1, h => by
    show cnS (ur pl m x) n + (if 0 ≤ ur pl m x (n + 1) then 1 else 0) = cnS pl n + (if 0 ≤ pl (n + 1) then 1 else 0) + 1
    by_cases e : m = n + 1
    · rw [cnS_far n (by omega), ← e, ur_at, if_pos hx, if_neg (by omega)]
      omega
    · rw [cnS_ur hx hm hn n (by omega), ur_ne (by omega)]
      omega
theorem cnS_none : ∀ n : Nat, cnS (fun _ => -1) n = 0
  | 0 => rfl
  | n + 1 => by
    show cnS (fun _ => -1) n + (if (0 : Int) ≤ -1 then 1 else 0) = 0
    rw [cnS_none n]
    rfl
theorem iE_r {g : Int → Int} {N B ids F p : Int} (hB : 4096 ≤ B) (hp : 0 ≤ p) : iE g N B ids F p = -1 ∨ (p + 20 ≤ iE g N B ids F p ∧ iE g N B ids F p ≤ N ∧ hdP g N ids p ∧ iE g N B ids F p = bodE g N B F p) := by
  by_cases H : hdP g N ids p
  · have e : iE g N B ids F p = bodE g N B F p := cif_pos H
    rw [e]
    obtain ⟨h1, h2, h3, -⟩ := id H
    obtain ⟨T, gT⟩ : ∃ T : Int, T = le g p 2 := ⟨_, rfl⟩
    have fr : 20 ≤ fxT (le g p 2) := by
      unfold fxT
      omega
    have eb : bodE g N B F p = if kdT (le g p 2) = 1 then dirE g N p else if kdT (le g p 2) = 2 then filE g N B F p else if kdT (le g p 2) = 3 then lnkE g N p else othE g p := rfl
    have ek : (le g p 2 ≤ 7 ∧ kdT (le g p 2) = le g p 2) ∨ (7 < le g p 2 ∧ kdT (le g p 2) = le g p 2 - 7) := by
      unfold kdT
      split <;> omega
    have R : bodE g N B F p = -1 ∨ (p + 20 ≤ bodE g N B F p ∧ bodE g N B F p ≤ N) := by
      rw [eb]
      split
      · rename_i c
        have ef : (le g p 2 = 1 ∧ fxT (le g p 2) = 32) ∨ (le g p 2 = 8 ∧ fxT (le g p 2) = 40) := by
          have : le g p 2 = 1 ∨ le g p 2 = 8 := by omega
          rcases this with c | c
          · exact Or.inl ⟨c, by rw [c]; rfl⟩
          · exact Or.inr ⟨c, by rw [c]; rfl⟩
        unfold dirE
        split
        · split
          · exact Or.inr (by omega)
          · exact Or.inl rfl
        · split
          · rcases iw_r (g := g) (le g (p + 32) 2).toNat (p + 40) (by omega) (show p + 40 ≤ N by omega) with z | z
            · exact Or.inl z
            · exact Or.inr (by omega)
          · exact Or.inl rfl
      · split
        · unfold filE
          split
          · unfold flE
            by_cases P : flP g N B F (fSz g p) (fFr g p) (fOf g p) (p + fxT (le g p 2))
            · rw [cif_pos P]
              have q := P.2.2.1
              have dr := div_r (fSz g p) hB P.1.1
              have : 0 ≤ bcN B (fSz g p) (fFr g p) := by
                unfold bcN
                split <;> omega
              exact Or.inr (by omega)
            · rw [cif_neg P]
              exact Or.inl rfl
          · exact Or.inl rfl
        · split
          · unfold lnkE
            have l := le_nn g 4 (p + 20)
            split
            · split
              · split
                · exact Or.inr (by omega)
                · exact Or.inl rfl
              · split
                · exact Or.inr (by omega)
                · exact Or.inl rfl
            · exact Or.inl rfl
          · unfold othE
            split
            · exact Or.inr (by omega)
            · exact Or.inl rfl
    rcases R with z | z
    · exact Or.inl z
    · exact Or.inr ⟨z.1, z.2, H, rfl⟩
  · exact Or.inl (cif_neg H)
def ivI (g : Int → Int) (N B ids F n p c : Int) (pl h : Int → Int) : Prop := (∀ j : Int, 0 ≤ pl j → (1 ≤ j ∧ j ≤ n) ∧ pl j < p ∧ h (pl j) = j) ∧ (∀ x : Int, h x ≠ 0 → (0 ≤ x ∧ x < p) ∧ (1 ≤ h x ∧ h x ≤ n) ∧ pl (h x) = x ∧ 0 ≤ iE g N B ids F x) ∧ cnS pl n.toNat = c
theorem iv_0 (g : Int → Int) (N B ids F n : Int) : ivI g N B ids F n 0 0 (fun _ => -1) (fun _ => 0) := by
  refine ⟨fun j hj => ?_, fun x hx => ?_, cnS_none _⟩
  · have hj' : (0 : Int) ≤ -1 := hj
    omega
  · exact absurd rfl hx
theorem iv_step {g : Int → Int} {N B ids F n p c m : Int} {pl h : Int → Int} (hB : 4096 ≤ B) (hp : 0 ≤ p) (hv : ivI g N B ids F n p c pl h) (hE : 0 ≤ iE g N B ids F p) (hm : 1 ≤ m ∧ m ≤ n) (hn : pl m < 0) : ivI g N B ids F n (iE g N B ids F p) (c + 1) (ur pl m p) (ur h p m) := by
  obtain ⟨v1, v2, v3⟩ := hv
  have r : p + 20 ≤ iE g N B ids F p := by
    rcases iE_r (g := g) (N := N) (ids := ids) (F := F) hB hp with z | z
    · omega
    · exact z.1
  refine ⟨fun j hj => ?_, fun x hx => ?_, ?_⟩
  · by_cases e : j = m
    · rw [e, ur_at, ur_at]
      exact ⟨hm, by omega, rfl⟩
    · rw [ur_ne e] at hj ⊢
      obtain ⟨a, b, c⟩ := v1 j hj
      refine ⟨a, by omega, ?_⟩
      rw [ur_ne (by omega)]
      exact c
  · by_cases e : x = p
    · rw [e, ur_at, ur_at]
      exact ⟨by omega, hm, rfl, hE⟩
    · rw [ur_ne e] at hx ⊢
      obtain ⟨a, b, c, f⟩ := v2 x hx
      refine ⟨by omega, b, ?_, f⟩
      have ne : h x ≠ m := by
        intro q
        rw [q] at c
        omega
      rw [ur_ne ne]
      exact c
  · rw [cnS_ur hp hm.1 hn _ (by omega), v3]
/-- after as many inodes as there are numbers, none is left -/
theorem iv_full {g : Int → Int} {N B ids F n p : Int} {pl h : Int → Int} (hn : 0 ≤ n) (hv : ivI g N B ids F n p n pl h) {m : Int} (hm : 1 ≤ m ∧ m ≤ n) : 0 ≤ pl m := cnS_full n.toNat (by rw [hv.2.2]; omega) m hm.1 (by omega)
def inV (g : Int → Int) (N B ids F n : Int) (pl h : Int → Int) : Prop := (∀ j : Int, 1 ≤ j → j ≤ n → 0 ≤ pl j ∧ pl j < N ∧ h (pl j) = j ∧ 0 ≤ iE g N B ids F (pl j)) ∧ (∀ x : Int, h x ≠ 0 → (0 ≤ x ∧ x < N) ∧ (1 ≤ h x ∧ h x ≤ n) ∧ pl (h x) = x)
theorem iv_end {g : Int → Int} {N B ids F n p : Int} {pl h : Int → Int} (hn : 0 ≤ n) (hp : p ≤ N) (hv : ivI g N B ids F n p n pl h) : inV g N B ids F n pl h := by
  refine ⟨fun j h1 h2 => ?_, fun x hx => ?_⟩
  · have q := iv_full hn hv ⟨h1, h2⟩
    obtain ⟨a, b, c⟩ := hv.1 j q
    refine ⟨q, by omega, c, ?_⟩
    exact (hv.2.1 (pl j) (by rw [c]; omega)).2.2.2
  · obtain ⟨a, b, c, f⟩ := hv.2.1 x hx
    exact ⟨by omega, b, c⟩
