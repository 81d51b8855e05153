/-! THE TREE WITH AN ENTRY LESS: names -/
def delB (M M2 : FM) (p x n : Int) (af ac : Nat) : Prop :=
  (∀ i : Int, 0 ≤ i → i < M 168 20 - 1 → (M2 12 i = del (M 12) p i ∧ M2 13 i = del (M 13) p i ∧ M2 14 i = del (M 14) p i) ∧ (M2 183 i = del (M 183) p i ∧ M2 184 i = del (M 184) p i ∧ M2 185 i = dlp (M 185 p) n (del (M 185) p i) ∧ M2 186 i = del (M 186) p i))
  ∧ (M2 8 2 = M 8 2 ∧ M2 8 7 = M 8 7 - 1 ∧ M2 8 8 = M 8 8 - n ∧ M2 8 9 = M 8 9)
  ∧ (M2 168 5 = M 168 5 ∧ M2 168 17 = M 168 17 ∧ M2 168 19 = M 168 19 ∧ M2 168 20 = M 168 20 - 1 ∧ M2 168 26 = M 168 26 - n)
  ∧ ((∀ i : Int, i < M 185 p → M2 187 i = M 187 i) ∧ ∀ i : Int, M 185 p ≤ i → i + n < M 168 26 → M2 187 i % 256 = M 187 (i + n) % 256)
  ∧ M2 177 = ur (M 177) x (M 177 x - 1)
  ∧ (M2 af = ur (M af) 10 (M af 10 - 1) ∧ M2 ac = ur (M ac) 9 (M ac 9 - 1))
  ∧ (∀ c : Nat, (9 ≤ c ∧ c ≤ 11 ∨ 171 ≤ c ∧ c ≤ 176 ∨ 178 ≤ c ∧ c ≤ 182) → M2 c = M c)
  ∧ (∀ c : Nat, (c = 17 ∨ 265 ≤ c) → c ≠ af → c ≠ ac → M2 c = M c)
/-- where an entry was before one went -/
def nwi (p k : Int) : Int := if k < p then k else k + 1
section TREEDEL
variable {sh : Nat → Option Shp} {M M2 : FM} {p x n : Int} {af ac : Nat}
theorem del_nwi (f : Int → Int) (p k : Int) : del f p k = f (nwi p k) := by
  unfold del nwi
  by_cases e : k < p
  · rw [if_pos e, if_pos e]
  · rw [if_neg e, if_neg e]
theorem nm_del (hW : twR M) (hB : delB M M2 p x n af ac) (hp0 : 0 ≤ p) (hp1 : p < M 168 20) (hn : n = M 186 p) (k : Int) (h0 : 0 ≤ k) (h1 : k < M 168 20 - 1) : (0 ≤ nwi p k ∧ nwi p k < M 168 20 ∧ nwi p k ≠ p) ∧ (M2 183 k = M 183 (nwi p k) ∧ M2 184 k = M 184 (nwi p k) ∧ M2 186 k = M 186 (nwi p k)) ∧ nmL M2 k = nmL M (nwi p k) ∧ (M2 12 k = M 12 (nwi p k) ∧ M2 13 k = M 13 (nwi p k) ∧ M2 14 k = M 14 (nwi p k)) ∧ (0 ≤ M2 185 k ∧ M2 185 k + M2 186 k ≤ M 168 26 - n) ∧ ((M 185 (nwi p k) + M 186 (nwi p k) ≤ M 185 p ∧ M2 185 k = M 185 (nwi p k)) ∨ (M 185 p + n ≤ M 185 (nwi p k) ∧ M2 185 k = M 185 (nwi p k) - n)) := by
  obtain ⟨b1, -, -, ⟨b4, b5⟩, -⟩ := hB
  obtain ⟨⟨q1, q2, q3⟩, q4, q5, q6, q7⟩ := b1 k h0 h1
  rw [del_nwi] at q1 q2 q3 q4 q5 q6 q7
  have hr : 0 ≤ nwi p k ∧ nwi p k < M 168 20 ∧ nwi p k ≠ p := by
    unfold nwi
    split <;> omega
  generalize nwi p k = m at *
  have g1 := (hW.2.2.2.1.2 m hr.1 hr.2.1).2.2.1
  have g2 := (hW.2.2.2.1.2 p hp0 hp1).2.2.1
  have g3 := hW.2.2.2.2.2.1 m p hr.1 hr.2.1 hp0 hp1 hr.2.2
  refine ⟨hr, ⟨q4, q5, q7⟩, ?_⟩
  by_cases e : M 185 m + M 186 m ≤ M 185 p
  · have e1 : M2 185 k = M 185 m := by
      rw [q6]
      unfold dlp
      rw [if_neg (by omega)]
    refine ⟨?_, ⟨q1, q2, q3⟩, by omega, Or.inl ⟨e, e1⟩⟩
    unfold nmL
    rw [e1, q7]
    exact sl_congr _ _ _ (fun i hi => by rw [b4 _ (by omega)])
  · have e2 : M 185 p + n ≤ M 185 m := by omega
    have e1 : M2 185 k = M 185 m - n := by
      rw [q6]
      unfold dlp
      rw [if_pos (by omega)]
    refine ⟨?_, ⟨q1, q2, q3⟩, by omega, Or.inr ⟨e2, e1⟩⟩
    unfold nmL
    rw [e1, q7]
    refine sl_congr _ _ _ (fun i hi => ?_)
    rw [b5 _ (by omega) (by omega)]
    congr 2
    omega
end TREEDEL
