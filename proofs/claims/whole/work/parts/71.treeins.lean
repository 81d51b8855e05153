/-! THE TREE WITH AN ENTRY MORE: both hold the same one again -/
/-- a node that has no entry yet may be among them -/
def lvX (M : FM) (x i : Int) : Prop := live M i ∨ i = x
def tcNx (sh : Nat → Option Shp) (M : FM) (x : Int) : Prop := ∀ i : Int, 0 ≤ i → i < M 168 5 → (lvX M x i → ∃ a : Nat, M 11 i = a ∧ ndR sh M i a) ∧ (¬ lvX M x i → M 11 i < 0)
def tcFx (M : FM) (x : Int) : Prop := ∀ i j : Int, 0 ≤ i → i < M 168 5 → 0 ≤ j → j < M 168 5 → i ≠ j → lvX M x i → lvX M x j → M 171 i = 2 → M 171 j = 2 → M (M 11 i).toNat 11 + M (M 11 i).toNat 12 ≤ M (M 11 j).toNat 11 ∨ M (M 11 j).toNat 11 + M (M 11 j).toNat 12 ≤ M (M 11 i).toNat 11
def treeX (sh : Nat → Option Shp) (M : FM) (x : Int) : Prop := twR M ∧ tcA M ∧ tcNx sh M x ∧ tcE sh M ∧ tcFx M x
theorem lvX_live {M : FM} {x i : Int} (hx : live M x) : lvX M x i ↔ live M i := by
  unfold lvX
  constructor
  · intro h
    rcases h with h | h
    · exact h
    · rw [h]
      exact hx
  · exact Or.inl
theorem treeX_of {sh : Nat → Option Shp} {M : FM} {x : Int} (hT : treeR sh M) (hx : live M x) : treeX sh M x := by
  obtain ⟨h1, h2, h3, h4, h5⟩ := hT
  refine ⟨h1, h2, fun i i1 i2 => ?_, h4, fun i j i1 i2 j1 j2 ij hi hj => h5 i j i1 i2 j1 j2 ij ((lvX_live hx).1 hi) ((lvX_live hx).1 hj)⟩
  rw [lvX_live hx]
  exact h3 i i1 i2
def insB (M M2 : FM) (p F x n : Int) (T : List Int) (af ac r : Nat) : Prop :=
  (M2 r 1 = n ∧ sl (M2 (r + 1)) 0 n.toNat = T)
  ∧ (∀ i : Int, 0 ≤ i → i ≤ M 168 20 → (M2 12 i = ins (M 12) p af i ∧ M2 13 i = ins (M 13) p ac i ∧ M2 14 i = ins (M 14) p r i) ∧ (M2 183 i = ins (M 183) p F i ∧ M2 184 i = ins (M 184) p x i ∧ M2 185 i = ins (M 185) p (M 168 26) i ∧ M2 186 i = ins (M 186) p n i))
  ∧ (M2 8 2 = M 8 2 ∧ M2 8 7 = M 8 7 + 1 ∧ M2 8 8 = M 8 8 + n ∧ M2 8 9 = M 8 9)
  ∧ (M2 168 5 = M 168 5 ∧ M2 168 17 = M 168 17 ∧ M2 168 19 = M 168 19 ∧ M2 168 20 = M 168 20 + 1 ∧ M2 168 26 = M 168 26 + n)
  ∧ ((∀ i : Int, 0 ≤ i → i < M 168 26 → M2 187 i = M 187 i) ∧ sl (M2 187) (M 168 26) n.toNat = T)
  ∧ M2 177 = ur (M 177) x (M 177 x + 1)
  ∧ (M2 af = ur (M af) 10 (M af 10 + 1) ∧ M2 ac = ur (M ac) 9 (M ac 9 + 1))
  ∧ (∀ c : Nat, (9 ≤ c ∧ c ≤ 11 ∨ 171 ≤ c ∧ c ≤ 176 ∨ 178 ≤ c ∧ c ≤ 182) → M2 c = M c)
  ∧ (∀ c : Nat, (c = 17 ∨ 265 ≤ c) → c ≠ af → c ≠ ac → c ≠ r → c ≠ r + 1 → M2 c = M c)
/-- an entry behind the new one, and the same before -/
theorem ins_lt {f : Int → Int} {p x i : Int} (h : i < p) : ins f p x i = f i := if_pos h
theorem ins_at (f : Int → Int) (p x : Int) : ins f p x p = x := by
  unfold ins
  rw [if_neg (by omega), if_pos rfl]
theorem ins_gt {f : Int → Int} {p x i : Int} (h : p < i) : ins f p x i = f (i - 1) := by
  unfold ins
  rw [if_neg (by omega), if_neg (by omega)]
section TREEINS
variable {sh : Nat → Option Shp} {M M2 : FM} {p F x n : Int} {T : List Int} {af ac r : Nat}
/-- where an old entry was -/
def old (p k : Int) : Int := if k < p then k else k - 1
theorem nm_old (hW : twR M) (hB : insB M M2 p F x n T af ac r) (hp : 0 ≤ p ∧ p ≤ M 168 20) (k : Int) (h0 : 0 ≤ k) (h1 : k ≤ M 168 20) (hk : k ≠ p) : (0 ≤ old p k ∧ old p k < M 168 20) ∧ M2 183 k = M 183 (old p k) ∧ M2 184 k = M 184 (old p k) ∧ M2 185 k = M 185 (old p k) ∧ M2 186 k = M 186 (old p k) ∧ nmL M2 k = nmL M (old p k) ∧ M2 12 k = M 12 (old p k) ∧ M2 13 k = M 13 (old p k) ∧ M2 14 k = M 14 (old p k) := by
  obtain ⟨-, b2, -, -, ⟨b5, -⟩, -⟩ := hB
  obtain ⟨⟨q1, q2, q3⟩, q4, q5, q6, q7⟩ := b2 k h0 h1
  have ho : 0 ≤ old p k ∧ old p k < M 168 20 := by
    unfold old
    split <;> omega
  have hi : ∀ (f : Int → Int) (y : Int), ins f p y k = f (old p k) := by
    intro f y
    unfold old
    by_cases e : k < p
    · rw [if_pos e]
      exact ins_lt e
    · rw [if_neg e]
      exact ins_gt (by omega)
  rw [hi] at q1 q2 q3 q4 q5 q6 q7
  refine ⟨ho, q4, q5, q6, q7, ?_, q1, q2, q3⟩
  obtain ⟨-, -, ⟨f1, f2, f3, f4⟩, -⟩ := hW.2.2.2.1.2 (old p k) ho.1 ho.2
  unfold nmL
  rw [q6, q7]
  exact sl_congr _ _ _ (fun i hi => by rw [b5 _ (by omega) (by omega)])
theorem nm_new (hB : insB M M2 p F x n T af ac r) (hp : 0 ≤ p ∧ p ≤ M 168 20) : M2 183 p = F ∧ M2 184 p = x ∧ M2 185 p = M 168 26 ∧ M2 186 p = n ∧ nmL M2 p = T ∧ M2 12 p = af ∧ M2 13 p = ac ∧ M2 14 p = r := by
  obtain ⟨-, b2, -, -, ⟨-, b5⟩, -⟩ := hB
  obtain ⟨⟨q1, q2, q3⟩, q4, q5, q6, q7⟩ := b2 p hp.1 hp.2
  rw [ins_at] at q1 q2 q3 q4 q5 q6 q7
  refine ⟨q4, q5, q6, q7, ?_, q1, q2, q3⟩
  unfold nmL
  rw [q6, q7]
  exact b5
theorem live_ins (hB : insB M M2 p F x n T af ac r) (hx : 0 ≤ M 177 x) (i : Int) : live M2 i ↔ lvX M x i := by
  obtain ⟨-, -, -, -, -, b6, -⟩ := hB
  unfold live lvX live
  rw [b6]
  by_cases e : i = x
  · subst e
    rw [ur_at]
    constructor
    · intro _
      exact Or.inr rfl
    · intro _
      exact Or.inr (by omega)
  · rw [ur_ne e]
    constructor
    · exact Or.inl
    · intro h
      rcases h with h | h
      · exact h
      · exact absurd h e
theorem twR_ins (hX : treeX sh M x) (hB : insB M M2 p F x n T af ac r) (hp : isLB M p F T) (hnot : ¬ (p < M 168 20 ∧ M 183 p = F ∧ nmL M p = T)) (hF0 : 0 ≤ F) (hF1 : F < M 168 5) (hFl : live M F) (hFk : M 171 F = 1) (hx0 : 0 < x) (hx1 : x < M 168 5) (hxk : M 171 x = 1 → M 177 x = 0 ∧ M 178 x = F) (hn : 1 ≤ n ∧ n ≤ 256) (hTl : (T.length : Int) = n) (hE : M 168 20 < 2000) (hA : M 168 26 + n ≤ 32768) : twR M2 := by
  have hW := hX.1
  have hB0 := hB
  obtain ⟨b1, b2, b3, ⟨b41, b42, b43, b44, b45⟩, b5, b6, b7, b8, b9⟩ := hB
  have hE0 := hW.2.2.2.1.1
  have hC := hW.2.2.2.2.2.2
  have hxC := (hC x (by omega) hx1).1
  have hx177 : 0 ≤ M 177 x := by have := (cnt_nn (M 184) x (M 168 20).toNat).1; omega
  have LV := live_ins hB0 hx177
  have k171 := b8 171 (by omega)
  have k172 := b8 172 (by omega)
  have k173 := b8 173 (by omega)
  have k174 := b8 174 (by omega)
  have k175 := b8 175 (by omega)
  have k176 := b8 176 (by omega)
  have k178 := b8 178 (by omega)
  have k179 := b8 179 (by omega)
  have k180 := b8 180 (by omega)
  have OLD := nm_old hW hB0 hp.1
  have NEW := nm_new hB0 hp.1
  refine ⟨?_, ?_, ?_, ?_, ?_, ?_, ?_⟩
  · unfold twN
    rw [k171, k172, k173, k174, k175, k176, k178, b41]
    exact hW.1
  · unfold twB
    rw [k171, k179, k180, b41, b42, b43]
    exact hW.2.1
  · unfold twD
    rw [k171, k179, k180, b41]
    exact hW.2.2.1
  · unfold twE
    rw [b44, b45, b41, k171, k178]
    refine ⟨by omega, fun k k0 k1 => ?_⟩
    by_cases e : k = p
    · subst e
      obtain ⟨n1, n2, n3, n4, -⟩ := NEW
      rw [n1, n2, n3, n4]
      refine ⟨⟨hF0, hF1, (LV F).2 (Or.inl hFl), hFk⟩, ⟨hx0, hx1⟩, by omega, fun h => ?_⟩
      exact (hxk h).2.symm
    · obtain ⟨⟨o1, o2⟩, o3, o4, o5, o6, -⟩ := OLD k k0 (by omega) e
      rw [o3, o4, o5, o6]
      obtain ⟨⟨f1, f2, f3, f4⟩, f5, f6, f7⟩ := hW.2.2.2.1.2 (old p k) o1 o2
      exact ⟨⟨f1, f2, (LV _).2 (Or.inl f3), f4⟩, f5, by omega, f7⟩
  · intro k m k0 k1 k2
    rw [b44] at k2
    obtain ⟨-, lb2, lb3⟩ := hp
    have hO := hW.2.2.2.2.1
    unfold ltK
    by_cases e1 : k = p
    · subst e1
      obtain ⟨n1, -, -, -, n5, -⟩ := NEW
      obtain ⟨⟨o1, o2⟩, o3, -, -, -, o7, -⟩ := OLD m (by omega) (by omega) (by omega)
      rw [n1, n5, o3, o7]
      have om : old k m = m - 1 := by
        unfold old
        rw [if_neg (by omega)]
      rw [om] at o2 ⊢
      have g := lb3 (m - 1) (by omega) o2
      unfold ltK at g
      by_cases h1 : F < M 183 (m - 1)
      · exact Or.inl h1
      · refine Or.inr ⟨?_, ?_⟩
        · by_cases h2 : M 183 (m - 1) < F
          · exact absurd (Or.inl h2) g
          · omega
        · have h2 : M 183 (m - 1) = F := by
            by_cases h2 : M 183 (m - 1) < F
            · exact absurd (Or.inl h2) g
            · omega
          have h3 : ¬ ordL (nmL M (m - 1)) T < 0 := fun q => g (Or.inr ⟨h2, q⟩)
          have h4 : ordL (nmL M (m - 1)) T ≠ 0 := by
            intro q
            have q2 := (ordL_eq _ _).1 q
            -- the entry at k itself has this folder and is not after it
            by_cases q3 : m - 1 = k
            · rw [q3] at h2 q2 o2
              exact hnot ⟨o2, h2, q2⟩
            · have q4 := hO k (m - 1) k0 (by omega) o2
              have q5 : ¬ ltK M k F T := lb3 k (Int.le_refl k) (by omega)
              rw [h2, q2] at q4
              exact q5 q4
          rw [ordL_anti]
          omega
    · obtain ⟨⟨o1, o2⟩, o3, -, -, -, o7, -⟩ := OLD k k0 (by omega) e1
      rw [o3, o7]
      by_cases e2 : m = p
      · subst e2
        obtain ⟨n1, -, -, -, n5, -⟩ := NEW
        rw [n1, n5]
        have ok : old m k = k := if_pos (by omega)
        rw [ok]
        exact lb2 k k0 (by omega)
      · obtain ⟨⟨p1, p2⟩, p3, -, -, -, p7, -⟩ := OLD m (by omega) (by omega) e2
        rw [p3, p7]
        refine hO (old p k) (old p m) o1 ?_ p2
        unfold old
        split <;> split <;> omega
  · intro k m k0 k1 m0 m1 km
    rw [b44] at k1 m1
    have hS := hW.2.2.2.2.2.1
    by_cases e1 : k = p
    · subst e1
      obtain ⟨-, -, n3, n4, -⟩ := NEW
      obtain ⟨⟨o1, o2⟩, -, -, o5, o6, -⟩ := OLD m m0 (by omega) (fun q => km q.symm)
      obtain ⟨-, -, f6, -⟩ := hW.2.2.2.1.2 _ o1 o2
      rw [n3, n4, o5, o6]
      omega
    · obtain ⟨⟨o1, o2⟩, -, -, o5, o6, -⟩ := OLD k k0 (by omega) e1
      by_cases e2 : m = p
      · subst e2
        obtain ⟨-, -, n3, n4, -⟩ := NEW
        obtain ⟨-, -, f6, -⟩ := hW.2.2.2.1.2 _ o1 o2
        rw [n3, n4, o5, o6]
        omega
      · obtain ⟨⟨p1, p2⟩, -, -, p5, p6, -⟩ := OLD m m0 (by omega) e2
        rw [o5, o6, p5, p6]
        refine hS _ _ o1 o2 p1 p2 ?_
        unfold old
        split <;> split <;> omega
  · intro i i0 i1
    rw [b41] at i1
    have hc := hC i i0 i1
    rw [k171, b44, b6]
    have e1 : (M 168 20 + 1).toNat = (M 168 20).toNat + 1 := by omega
    have hp1 := hp.1
    have e2 : cnt (M2 184) (M 168 20 + 1).toNat i = cnt (ins (M 184) p x) ((M 168 20).toNat + 1) i := by
      rw [e1]
      exact cnt_congr i _ (fun k hk => (b2 k (by omega) (by omega)).2.2.1)
    have e3 := cnt_ins (M 184) p.toNat x i ((M 168 20).toNat + 1)
    rw [show ((p.toNat : Nat) : Int) = p by omega, if_neg (by omega), show (M 168 20).toNat + 1 - 1 = (M 168 20).toNat by omega] at e3
    rw [e2, e3]
    by_cases e : i = x
    · subst e
      rw [ur_at, if_pos rfl]
      refine ⟨by omega, fun h => ?_⟩
      have := (hxk h).1
      omega
    · rw [ur_ne e, if_neg (fun q => e q.symm)]
      exact ⟨by omega, hc.2⟩
end TREEINS
