/-! THE TREE: how the class's and the reference's cells hold the same one -/
/-- how often a number comes -/
def cnt (f : Int → Int) : Nat → Int → Int
  | 0, _ => 0
  | n + 1, v => cnt f n v + (if f n = v then 1 else 0)
theorem cnt_nn (f : Int → Int) (v : Int) : ∀ n, 0 ≤ cnt f n v ∧ cnt f n v ≤ n
  | 0 => by
    show (0 : Int) ≤ 0 ∧ (0 : Int) ≤ ((0 : Nat) : Int)
    omega
  | n + 1 => by
    have h := cnt_nn f v n
    show 0 ≤ cnt f n v + (if f n = v then 1 else 0) ∧ cnt f n v + (if f n = v then 1 else 0) ≤ ((n + 1 : Nat) : Int)
    split <;> omega
theorem cnt_pos (f : Int → Int) (v : Int) : ∀ (n k : Nat), k < n → f k = v → 0 < cnt f n v
  | 0, k, h, _ => by omega
  | n + 1, k, h, e => by
    have h0 := (cnt_nn f v n).1
    show 0 < cnt f n v + (if f n = v then 1 else 0)
    by_cases q : k = n
    · subst q
      rw [if_pos e]
      omega
    · have h1 := cnt_pos f v n k (by omega) e
      split <;> omega
theorem cnt_ex (f : Int → Int) (v : Int) : ∀ n : Nat, 0 < cnt f n v → ∃ k : Nat, k < n ∧ f k = v
  | 0, h => by
    have h2 : (0 : Int) < 0 := h
    omega
  | n + 1, h => by
    have h2 : 0 < cnt f n v + (if f n = v then 1 else 0) := h
    by_cases e : f n = v
    · exact ⟨n, by omega, e⟩
    · rw [if_neg e] at h2
      obtain ⟨k, h3, h4⟩ := cnt_ex f v n (by omega)
      exact ⟨k, by omega, h4⟩
theorem cnt_congr {f g : Int → Int} (v : Int) : ∀ n : Nat, (∀ k : Nat, k < n → f k = g k) → cnt f n v = cnt g n v
  | 0, _ => rfl
  | n + 1, h => by
    show cnt f n v + (if f n = v then 1 else 0) = cnt g n v + (if g n = v then 1 else 0)
    rw [cnt_congr v n (fun k hk => h k (by omega)), h n (by omega)]
/-- a row with one more, or one less, at p -/
def ins (f : Int → Int) (p x : Int) : Int → Int := fun i => if i < p then f i else if i = p then x else f (i - 1)
def del (f : Int → Int) (p : Int) : Int → Int := fun i => if i < p then f i else f (i + 1)
theorem cnt_ins (f : Int → Int) (p : Nat) (x v : Int) : ∀ n : Nat, cnt (ins f p x) n v = if n ≤ p then cnt f n v else cnt f (n - 1) v + (if x = v then 1 else 0)
  | 0 => by
    rw [if_pos (by omega)]
    rfl
  | n + 1 => by
    have ih := cnt_ins f p x v n
    show cnt (ins f p x) n v + (if ins f p x n = v then 1 else 0) = _
    rw [ih]
    by_cases h1 : n + 1 ≤ p
    · rw [if_pos (by omega), if_pos h1]
      have e : ins f p x n = f n := if_pos (by omega)
      rw [e]
      rfl
    · rw [if_neg h1]
      by_cases h2 : n = p
      · rw [if_pos (by omega)]
        have e : ins f p x n = x := by
          unfold ins
          rw [if_neg (by omega), if_pos (by omega)]
        rw [e]
        rfl
      · rw [if_neg (by omega)]
        have e : ins f p x n = f ((n - 1 : Nat) : Int) := by
          unfold ins
          rw [if_neg (by omega), if_neg (by omega)]
          congr 1
          omega
        rw [e]
        have e2 : cnt f (n + 1 - 1) v = cnt f (n - 1) v + (if f ((n - 1 : Nat) : Int) = v then 1 else 0) := by
          rw [show n + 1 - 1 = (n - 1) + 1 by omega]
          rfl
        rw [e2]
        omega
theorem cnt_del (f : Int → Int) (p : Nat) (v : Int) : ∀ n : Nat, p ≤ n → cnt (del f p) n v + (if f p = v then 1 else 0) = cnt f (n + 1) v
  | 0, h => by
    have e : p = 0 := by omega
    subst e
    show 0 + _ = 0 + _
    rfl
  | n + 1, h => by
    show cnt (del f p) n v + (if del f p n = v then 1 else 0) + (if f p = v then 1 else 0) = cnt f (n + 1) v + (if f ((n + 1 : Nat) : Int) = v then 1 else 0)
    by_cases e : p = n + 1
    · subst e
      have e1 : del f ((n + 1 : Nat) : Int) n = f n := if_pos (by omega)
      rw [e1]
      have e2 : cnt (del f ((n + 1 : Nat) : Int)) n v = cnt f n v := cnt_congr v n (fun k hk => if_pos (by omega))
      rw [e2]
      rfl
    · have ih := cnt_del f p v n (by omega)
      have e1 : del f p n = f ((n + 1 : Nat) : Int) := by
        unfold del
        rw [if_neg (by omega)]
        congr 1
      rw [e1]
      omega
/-- the reference's names -/
def nmL (M : FM) (k : Int) : List Int := sl (M 187) (M 185 k) (M 186 k).toNat
/-- an entry is before a name in a directory -/
def ltK (M : FM) (k F : Int) (T : List Int) : Prop := M 183 k < F ∨ (M 183 k = F ∧ ordL (nmL M k) T < 0)
def live (M : FM) (i : Int) : Prop := i = 0 ∨ 0 < M 177 i
/-- the reference's tree is well made: nodes -/
def twN (M : FM) : Prop := (1 ≤ M 168 5 ∧ M 168 5 ≤ 2000 ∧ M 171 0 = 1) ∧ ∀ i : Int, 0 ≤ i → i < M 168 5 → ((1 ≤ M 171 i ∧ M 171 i ≤ 7) ∧ (0 < i → 0 ≤ M 178 i ∧ M 178 i < i) ∧ (0 ≤ M 172 i ∧ M 172 i ≤ 4095) ∧ (-2147483648 ≤ M 173 i ∧ M 173 i ≤ 2147483647) ∧ (-2147483648 ≤ M 174 i ∧ M 174 i ≤ 2147483647) ∧ (-2147483648 ≤ M 175 i ∧ M 175 i ≤ 2147483647) ∧ (-2147483648 ≤ M 176 i ∧ M 176 i ≤ 2147483647))
/-- files and targets -/
def twB (M : FM) : Prop := (0 ≤ M 168 17 ∧ M 168 17 ≤ 65536 ∧ 0 ≤ M 168 19 ∧ M 168 19 ≤ 32768) ∧ (∀ i : Int, 0 ≤ i → i < M 168 5 → (0 ≤ M 179 i ∧ 0 ≤ M 180 i) ∧ (M 171 i = 2 → M 179 i + M 180 i ≤ M 168 17) ∧ (M 171 i = 3 → M 179 i + M 180 i ≤ M 168 19))
def twD (M : FM) : Prop := ∀ i j : Int, 0 ≤ i → i < M 168 5 → 0 ≤ j → j < M 168 5 → i ≠ j → M 171 i = M 171 j → (M 171 i = 2 ∨ M 171 i = 3) → M 179 i + M 180 i ≤ M 179 j ∨ M 179 j + M 180 j ≤ M 179 i
/-- entries -/
def twE (M : FM) : Prop := (0 ≤ M 168 20 ∧ M 168 20 ≤ 2000 ∧ 0 ≤ M 168 26 ∧ M 168 26 ≤ 32768) ∧ ∀ k : Int, 0 ≤ k → k < M 168 20 → ((0 ≤ M 183 k ∧ M 183 k < M 168 5 ∧ live M (M 183 k) ∧ M 171 (M 183 k) = 1) ∧ (0 < M 184 k ∧ M 184 k < M 168 5) ∧ (0 ≤ M 185 k ∧ 1 ≤ M 186 k ∧ M 186 k ≤ 256 ∧ M 185 k + M 186 k ≤ M 168 26) ∧ (M 171 (M 184 k) = 1 → M 183 k = M 178 (M 184 k)))
def twO (M : FM) : Prop := ∀ k m : Int, 0 ≤ k → k < m → m < M 168 20 → ltK M k (M 183 m) (nmL M m)
def twS (M : FM) : Prop := ∀ k m : Int, 0 ≤ k → k < M 168 20 → 0 ≤ m → m < M 168 20 → k ≠ m → M 185 k + M 186 k ≤ M 185 m ∨ M 185 m + M 186 m ≤ M 185 k
/-- ties are counted; a directory is in one entry at most -/
def twC (M : FM) : Prop := ∀ i : Int, 0 ≤ i → i < M 168 5 → M 177 i = cnt (M 184) (M 168 20).toNat i ∧ (M 171 i = 1 → M 177 i ≤ 1)
def nodeFl (h t : Option Nat) : List (Option (Option Nat)) := [none, none, none, some h, none, none, none, none, none, none, none, none, none, some t, none, none, none, none, none, none]
/-- a row that stays as it is: made by a call, with these bytes -/
def rowD (sh : Nat → Option Shp) (M : FM) (r b : Nat) (T : List Int) : Prop := (shp sh r = some (.inr (1, [some (some b), none, none])) ∧ shp sh b = some (.inl (.byte, T.length))) ∧ (265 ≤ r ∧ 265 ≤ b ∧ r ≠ b) ∧ T.length ≤ 4096 ∧ M r 1 = T.length ∧ sl (M b) 0 T.length = T
/-- the class's node: its cell's shape -/
def ndS (sh : Nat → Option Shp) (a : Nat) (h t : Option Nat) : Prop := shp sh a = some (.inr (3, nodeFl h t)) ∧ (a = 17 ∨ 265 ≤ a)
def ndE (M : FM) (i : Int) (a : Nat) : Prop := M a 0 = i ∧ M a 1 = M 171 i ∧ (M a 2 = if M 171 i = 4 ∨ M 171 i = 5 then M 176 i else 0) ∧ M a 5 = M 172 i ∧ M a 6 = M 173 i ∧ M a 7 = M 174 i ∧ M a 8 = M 175 i ∧ M a 9 = M 177 i ∧ M a 10 = cnt (M 183) (M 168 20).toNat i
def ndF (M : FM) (i : Int) (a : Nat) : Prop := (0 ≤ M a 11 ∧ 0 ≤ M a 12 ∧ M a 11 + M a 12 ≤ M 9 1) ∧ (M 171 i = 2 → M a 12 = M 180 i ∧ sl (M 10) (M a 11) (M a 12).toNat = sl (M 181) (M 179 i) (M 180 i).toNat) ∧ (M 171 i ≠ 2 → M a 11 = 0 ∧ M a 12 = 0)
def ndL (sh : Nat → Option Shp) (M : FM) (i : Int) (t : Option Nat) : Prop := (M 171 i = 3 → ∃ r b : Nat, t = some r ∧ rowD sh M r b (sl (M 182) (M 179 i) (M 180 i).toNat)) ∧ (M 171 i ≠ 3 → t = none)
def ndD (M : FM) (i : Int) (a : Nat) (h : Option Nat) : Prop := (0 ≤ M a 4 ∧ M a 4 ≤ 101) ∧ (M 171 i = 1 → M a 4 ≤ 100 ∧ (i = 0 → h = none ∧ M a 4 = 0) ∧ (0 < i → h = some (M 11 (M 178 i)).toNat ∧ M a 4 = M (M 11 (M 178 i)).toNat 4 + 1))
def ndR (sh : Nat → Option Shp) (M : FM) (i : Int) (a : Nat) : Prop := ∃ h t, ndS sh a h t ∧ ndE M i a ∧ ndF M i a ∧ ndL sh M i t ∧ ndD M i a h
/-- both hold the same tree -/
def tcN (sh : Nat → Option Shp) (M : FM) : Prop := ∀ i : Int, 0 ≤ i → i < M 168 5 → (live M i → ∃ a : Nat, M 11 i = a ∧ ndR sh M i a) ∧ (¬ live M i → M 11 i < 0)
def tcE (sh : Nat → Option Shp) (M : FM) : Prop := ∀ k : Int, 0 ≤ k → k < M 168 20 → M 12 k = M 11 (M 183 k) ∧ M 13 k = M 11 (M 184 k) ∧ ∃ r b : Nat, M 14 k = r ∧ rowD sh M r b (nmL M k)
/-- the class's files don't meet -/
def tcF (M : FM) : Prop := ∀ i j : Int, 0 ≤ i → i < M 168 5 → 0 ≤ j → j < M 168 5 → i ≠ j → live M i → live M j → M 171 i = 2 → M 171 j = 2 → M (M 11 i).toNat 11 + M (M 11 i).toNat 12 ≤ M (M 11 j).toNat 11 ∨ M (M 11 j).toNat 11 + M (M 11 j).toNat 12 ≤ M (M 11 i).toNat 11
def tcA (M : FM) : Prop := M 8 2 = M 168 5 ∧ M 8 7 = M 168 20 ∧ M 8 8 = M 168 26 ∧ M 8 9 = M 168 19 ∧ M 9 1 = M 168 17
/-- the reference's tree is well made -/
def twR (M : FM) : Prop := twN M ∧ twB M ∧ twD M ∧ twE M ∧ twO M ∧ twS M ∧ twC M
def treeR (sh : Nat → Option Shp) (M : FM) : Prop := twR M ∧ tcA M ∧ tcN sh M ∧ tcE sh M ∧ tcF M
theorem ltK_mono {M : FM} (ho : twO M) {k m F : Int} {T : List Int} (h0 : 0 ≤ k) (h1 : k ≤ m) (h2 : m < M 168 20) (h : ltK M m F T) : ltK M k F T := by
  by_cases e : k = m
  · subst e
    exact h
  · have q := ho k m h0 (by omega) h2
    unfold ltK at q h ⊢
    rcases q with q | ⟨q1, q2⟩
    · rcases h with h | ⟨h, _⟩
      · exact Or.inl (by omega)
      · exact Or.inl (by omega)
    · rcases h with h | ⟨h3, h4⟩
      · exact Or.inl (by omega)
      · exact Or.inr ⟨by omega, ordL_tr _ _ _ q2 h4⟩
/-- the first entry that is not before a name -/
def isLB (M : FM) (p F : Int) (T : List Int) : Prop := (0 ≤ p ∧ p ≤ M 168 20) ∧ (∀ k : Int, 0 ≤ k → k < p → ltK M k F T) ∧ (∀ k : Int, p ≤ k → k < M 168 20 → ¬ ltK M k F T)
theorem isLB_u {M : FM} {p q F : Int} {T : List Int} (h1 : isLB M p F T) (h2 : isLB M q F T) : p = q := by
  obtain ⟨a1, a2, a3⟩ := h1
  obtain ⟨b1, b2, b3⟩ := h2
  by_cases e : p < q
  · exact absurd (b2 p a1.1 e) (a3 p (Int.le_refl p) (by omega))
  · by_cases e2 : q < p
    · exact absurd (a2 q b1.1 e2) (b3 q (Int.le_refl q) (by omega))
    · omega
