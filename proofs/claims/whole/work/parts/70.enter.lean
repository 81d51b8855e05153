/-! CONTRACTS: an entry more, in the reference's cells -/
def shf (f : Int → Int) (k E : Int) : Int → Int := fun i => if k < i ∧ i ≤ E then f (i - 1) else f i
theorem shf_E (f : Int → Int) (E : Int) : shf f E E = f := by
  funext i
  unfold shf
  rw [if_neg (by omega)]
theorem shf_step {f : Int → Int} {k E : Int} (h : k ≤ E) : ur (shf f k E) k (shf f k E (k - 1)) = shf f (k - 1) E := by
  funext i
  unfold ur shf
  by_cases e : i = k
  · rw [if_pos e, if_neg (by omega), if_pos (by omega), e]
  · rw [if_neg e]
    by_cases e2 : k < i ∧ i ≤ E
    · rw [if_pos e2, if_pos (by omega)]
    · rw [if_neg e2, if_neg (by omega)]
theorem shf_ins {f : Int → Int} {p E x i : Int} (h0 : 0 ≤ i) (h1 : i ≤ E) : ur (shf f p E) p x i = ins f p x i := by
  unfold ur shf ins
  by_cases e : i = p
  · rw [if_pos e, if_neg (by omega), if_pos e]
  · rw [if_neg e]
    by_cases e2 : i < p
    · rw [if_neg (by omega), if_pos e2]
    · rw [if_pos (by omega), if_neg e2, if_neg e]
/-- what enter makes of the cells -/
def entF (M M2 : FM) (e F x n : Int) : Prop :=
  (∀ i : Int, 0 ≤ i → i ≤ M 168 20 → M2 183 i = ins (M 183) e F i ∧ M2 184 i = ins (M 184) e x i ∧ M2 185 i = ins (M 185) e (M 168 26) i ∧ M2 186 i = ins (M 186) e n i)
  ∧ M2 168 = ur (ur (M 168) 20 (M 168 20 + 1)) 26 (M 168 26 + n)
  ∧ (∀ i : Int, 0 ≤ i → i < M 168 26 → M2 187 i = M 187 i) ∧ sl (M2 187) (M 168 26) n.toNat = sl (M 169) 0 n.toNat
  ∧ M2 177 = ur (M 177) x (M 177 x + 1)
  ∧ ∀ c : Nat, c ≠ 168 → c ≠ 177 → c ≠ 183 → c ≠ 184 → c ≠ 185 → c ≠ 186 → c ≠ 187 → M2 c = M c
section ENTER
variable {d nx zl : Nat} {K : Option TV → FH → Prop} {sh : Nat → Option Shp} {M : FM} {F n e x : Int}
theorem menter_Y (he0 : 0 ≤ e) (he1 : e ≤ M 168 20) (hE : M 168 20 < 2000) (hn0 : 0 ≤ n) (hn1 : n ≤ 16384) (hA0 : 0 ≤ M 168 26) (hA1 : M 168 26 + n ≤ 32768) (hx0 : 0 ≤ x) (hx1 : x < 2000) (hF : -2147483648 ≤ F ∧ F ≤ 2147483647) (k : ∀ M2 : FM, entF M M2 e F x n → K none (sh, M2, nx, zl)) : fm_Y (d + 1) 253 [.ref 168, .int (Int32.ofInt e), .int (Int32.ofInt F), .int (Int32.ofInt x), .int (Int32.ofInt n)] (sh, M, nx, zl) K := by
  refine m253 [fx 168, ti e, ti F, ti x, ti n] ?_
  -- the name's bytes
  have L2 : ∀ (N : Nat) (j : Int) (M2 : FM), (n - j).toNat < N → 0 ≤ j → j ≤ n → (∀ i : Int, 0 ≤ i → i ≤ M 168 20 → M2 183 i = ins (M 183) e F i ∧ M2 184 i = ins (M 184) e x i ∧ M2 185 i = ins (M 185) e (M 168 26) i ∧ M2 186 i = ins (M 186) e n i) → M2 168 = ur (ur (M 168) 20 (M 168 20 + 1)) 26 (M 168 26 + j) → (∀ i : Int, 0 ≤ i → i < M 168 26 → M2 187 i = M 187 i) → sl (M2 187) (M 168 26) j.toNat = sl (M 169) 0 j.toNat → (∀ c : Nat, c ≠ 168 → c ≠ 183 → c ≠ 184 → c ≠ 185 → c ≠ 186 → c ≠ 187 → M2 c = M c) → fm_X d kd253 127 [some (fx 168), some (ti e), some (ti F), some (ti x), some (ti n), some (ti j)] [] (sh, M2, nx, zl) K := by
    intro N
    induction N with
    | zero => intro j M2 h1; omega
    | succ N ih =>
      intro j M2 h1 h2 h3 i1 i2 i3 i4 i5
      have z26 : M2 168 26 = M 168 26 + j := by
        rw [i2]
        rfl
      have z169 : M2 169 = M 169 := i5 169 (by decide) (by decide) (by decide) (by decide) (by decide) (by decide)
      refine s253_127 d K _ _ _ ?_
      refine ⟨by omega, fun w => ?_, fun w => ?_⟩
      · have ej : j = n := by omega
        subst ej
        refine ⟨by omega, ?_⟩
        refine ⟨by omega, ?_⟩
        refine k _ ⟨i1, ?_, i3, i4, ?_, ?_⟩
        · rw [um_ne (by decide)]
          exact i2
        · rw [um_at, i5 177 (by decide) (by decide) (by decide) (by decide) (by decide) (by decide)]
        · intro c c1 c2 c3 c4 c5 c6 c7
          rw [um_ne c2]
          exact i5 c c1 c3 c4 c5 c6 c7
      · refine ⟨by omega, ?_⟩
        refine ⟨by omega, ?_⟩
        refine ih (j + 1) _ (by omega) (by omega) (by omega) ?_ ?_ ?_ ?_ ?_
        · intro i q1 q2
          exact i1 i q1 q2
        · show ur (M2 168) 26 (M2 168 26 + 1) = _
          rw [z26, i2]
          funext i
          unfold ur
          by_cases q : i = 26
          · rw [if_pos q, if_pos q]
            omega
          · rw [if_neg q, if_neg q, if_neg q]
        · intro i q1 q2
          show ur (M2 187) (M2 168 26) _ i = _
          rw [ur_ne (by omega)]
          exact i3 i q1 q2
        · show sl (ur (M2 187) (M2 168 26) ((M2 169 j + 128) % 256 - 128)) (M 168 26) (j + 1).toNat = _
          rw [show (j + 1).toNat = j.toNat + 1 by omega, sl_back, sl_back, sl_ur (by omega), i4, z26, show M 168 26 + ((j.toNat : Nat) : Int) = M 168 26 + j by omega, ur_at, z169, show (0 : Int) + ((j.toNat : Nat) : Int) = j by omega]
          congr 2
          omega
        · intro c c1 c2 c3 c4 c5 c6
          rw [um_ne c1, um_ne c6]
          exact i5 c c1 c2 c3 c4 c5 c6
  have L1 : ∀ (N : Nat) (j : Int) (M2 : FM), (j - e).toNat < N → e ≤ j → j ≤ M 168 20 → M2 183 = shf (M 183) j (M 168 20) → M2 184 = shf (M 184) j (M 168 20) → M2 185 = shf (M 185) j (M 168 20) → M2 186 = shf (M 186) j (M 168 20) → (∀ c : Nat, c ≠ 183 → c ≠ 184 → c ≠ 185 → c ≠ 186 → M2 c = M c) → fm_X d kd253 6 [some (fx 168), some (ti e), some (ti F), some (ti x), some (ti n), some (ti j)] [] (sh, M2, nx, zl) K := by
    intro N
    induction N with
    | zero => intro j M2 h1; omega
    | succ N ih =>
      intro j M2 h1 h2 h3 i1 i2 i3 i4 i5
      refine s253_6 d K _ _ _ ?_
      refine ⟨by omega, fun w => ?_, fun w => ?_⟩
      · have ej : j = e := by omega
        subst ej
        refine ⟨by omega, ?_⟩
        refine ⟨by omega, ?_⟩
        refine ⟨by omega, ?_⟩
        refine ⟨by omega, ?_⟩
        have z168 : M2 168 = M 168 := i5 168 (by decide) (by decide) (by decide) (by decide)
        refine L2 (n.toNat + 1) 0 _ (by omega) (by omega) hn0 ?_ ?_ ?_ ?_ ?_
        · intro i q1 q2
          refine ⟨?_, ?_, ?_, ?_⟩
          · show ur (M2 183) j F i = _
            rw [i1]
            exact shf_ins q1 q2
          · show ur (M2 184) j x i = _
            rw [i2]
            exact shf_ins q1 q2
          · show ur (M2 185) j (ur (M2 168) 20 (M2 168 20 + 1) 26) i = _
            rw [i3, z168]
            exact shf_ins q1 q2
          · show ur (M2 186) j n i = _
            rw [i4]
            exact shf_ins q1 q2
        · show ur (M2 168) 20 (M2 168 20 + 1) = _
          rw [z168]
          funext i
          unfold ur
          by_cases q : i = 26
          · subst q
            rw [if_pos rfl, Int.add_zero]
            rfl
          · rw [if_neg q]
        · intro i q1 q2
          show M2 187 i = _
          rw [i5 187 (by decide) (by decide) (by decide) (by decide)]
        · rfl
        · intro c c1 c2 c3 c4 c5 c6
          rw [um_ne c5, um_ne c4, um_ne c3, um_ne c2, um_ne c1]
          exact i5 c c2 c3 c4 c5
      · refine ⟨by omega, ?_⟩
        refine ⟨by omega, ?_⟩
        refine ⟨by omega, ?_⟩
        refine ⟨by omega, ?_⟩
        refine ⟨by omega, ?_⟩
        refine ⟨by omega, ?_⟩
        refine ⟨by omega, ?_⟩
        refine ⟨by omega, ?_⟩
        refine ih (j + -1) _ (by omega) (by omega) (by omega) ?_ ?_ ?_ ?_ ?_
        · show ur (M2 183) j (M2 183 (j - 1)) = _
          rw [i1]
          exact shf_step h3
        · show ur (M2 184) j (M2 184 (j - 1)) = _
          rw [i2]
          exact shf_step h3
        · show ur (M2 185) j (M2 185 (j - 1)) = _
          rw [i3]
          exact shf_step h3
        · show ur (M2 186) j (M2 186 (j - 1)) = _
          rw [i4]
          exact shf_step h3
        · intro c c1 c2 c3 c4
          rw [um_ne c4, um_ne c3, um_ne c2, um_ne c1]
          exact i5 c c1 c2 c3 c4
  exact L1 2001 (M 168 20) M (by omega) he1 (Int.le_refl _) (shf_E _ _).symm (shf_E _ _).symm (shf_E _ _).symm (shf_E _ _).symm (fun c _ _ _ _ => rfl)
end ENTER
