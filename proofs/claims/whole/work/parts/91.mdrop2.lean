/-! CALLS of both: drop, the reference's entries come down -/
section MDROP2
variable {d nx zl : Nat} {K : Option TV → FH → Prop} {sh : Nat → Option Shp} {M : FM} {F x s n p : Int}
theorem del_lo {f : Int → Int} {p i : Int} (h : i < p) : del f p i = f i := if_pos h
theorem del_hi {f : Int → Int} {p i : Int} (h : p ≤ i) : del f p i = f (i + 1) := if_neg (by omega)
theorem md146 (hE : 0 ≤ M 168 20 ∧ M 168 20 < 2000) (hp : 0 ≤ p)
    (k : ∀ M2 : FM, (∀ i : Int, i < M 168 20 → M2 183 i = del (M 183) p i ∧ M2 184 i = del (M 184) p i ∧ M2 185 i = del (M 185) p i ∧ M2 186 i = del (M 186) p i) → (∀ c : Nat, (c < 183 ∨ 186 < c) → M2 c = M c) → fm_X d kd255 228 [some (fx 168), some (ti F), some (ti n), some (ti p), some (ti x), some (ti s), some (ti 0)] [] (sh, M2, nx, zl) K) : ∀ (G : Nat) (i : Int) (M2 : FM), (M 168 20 - i).toNat < G → p ≤ i → i ≤ M 168 20 → (∀ j : Int, j < i → M2 183 j = del (M 183) p j ∧ M2 184 j = del (M 184) p j ∧ M2 185 j = del (M 185) p j ∧ M2 186 j = del (M 186) p j) → (∀ j : Int, i ≤ j → M2 183 j = M 183 j ∧ M2 184 j = M 184 j ∧ M2 185 j = M 185 j ∧ M2 186 j = M 186 j) → (∀ c : Nat, (c < 183 ∨ 186 < c) → M2 c = M c) → fm_X d kd255 146 [some (fx 168), some (ti F), some (ti n), some (ti p), some (ti x), some (ti s), some (ti i)] [] (sh, M2, nx, zl) K := by
  intro G
  induction G with
  | zero => intro i M2 h1; omega
  | succ G ih =>
    intro i M2 h1 h2 h3 a1 a2 a3
    have e168 := a3 168 (by omega)
    have e20 : M2 168 20 = M 168 20 := by rw [e168]
    refine s255_146 d K _ _ _ ?_
    refine ⟨by omega, fun w => ?_, fun w => ?_⟩
    · have ei : i = M 168 20 := by omega
      rw [ei] at a1
      exact k M2 a1 a3
    · refine ⟨by omega, ?_⟩
      refine ⟨by omega, ?_⟩
      refine ⟨by omega, ?_⟩
      refine ⟨by omega, ?_⟩
      refine ⟨by omega, ?_⟩
      refine ⟨by omega, ?_⟩
      refine ⟨by omega, ?_⟩
      refine ⟨by omega, ?_⟩
      obtain ⟨z1, z2, z3, z4⟩ := a2 (i + 1) (by omega)
      refine ih (i + 1) _ (by omega) (by omega) (by omega) ?_ ?_ ?_
      · intro j hj
        show ur (M2 183) i (M2 183 (i + 1)) j = _ ∧ ur (M2 184) i (M2 184 (i + 1)) j = _ ∧ ur (M2 185) i (M2 185 (i + 1)) j = _ ∧ ur (M2 186) i (M2 186 (i + 1)) j = _
        by_cases e : j = i
        · rw [e, ur_at, ur_at, ur_at, ur_at, del_hi h2, del_hi h2, del_hi h2, del_hi h2]
          exact ⟨z1, z2, z3, z4⟩
        · rw [ur_ne e, ur_ne e, ur_ne e, ur_ne e]
          exact a1 j (by omega)
      · intro j hj
        show ur (M2 183) i (M2 183 (i + 1)) j = _ ∧ ur (M2 184) i (M2 184 (i + 1)) j = _ ∧ ur (M2 185) i (M2 185 (i + 1)) j = _ ∧ ur (M2 186) i (M2 186 (i + 1)) j = _
        rw [ur_ne (by omega), ur_ne (by omega), ur_ne (by omega), ur_ne (by omega)]
        exact a2 j (by omega)
      · intro c hc
        rw [um_ne (by omega), um_ne (by omega), um_ne (by omega), um_ne (by omega)]
        exact a3 c hc
end MDROP2
