/-! THE CLASS'S CODES: Code.take -/
/-- the sum that tells whether lengths make codes -/
def sumL (p : Nat → Int32) : Nat → Int32
  | 0 => Int32.ofInt 0
  | j + 1 => sumL p j + (p (j + 1) <<< (((Int8.ofInt 15).toInt32 - nI (j + 1)) &&& 31))
/-- the ranked symbols, behind s of them -/
def rankL (g : Nat → Nat) (n : Nat) (f : Nat → Int32) : Nat → Nat → Int32
  | 0 => f
  | s + 1 => if 1 ≤ g s then (fun k => if k = tL g n (g s - 1) + pL g s (g s) then nI s else rankL g n f s k) else rankL g n f s
/-- where the next symbol of each length goes, behind s of them -/
def nextL (g : Nat → Nat) (n : Nat) (f : Nat → Int32) (s l : Nat) : Int32 := if 1 ≤ l ∧ l < 16 then nI (tL g n (l - 1) + pL g s l) else f l
def takeB (sum all p1 e : Int32) : Bool := decide (sum = 32768) || (decide (all = 1) && decide (p1 = 1)) || (decide (all = 0) && !decide (e = 0))
section TAKE2
variable {d : Nat} {h : eg_H} {a b c0 c1 c2 c3 c4 c5 n N at0 r : Nat} {G : Nat → Nat} {f4 : Nat → Value} {fb : Nat → Value} {f5 f3 : Nat → Int32} {e : Int32}
/-- the end: the answer -/
theorem take_end {K : Option Value → eg_H → Prop} {H : eg_H} {sum all p1 : Int32} {P : Nat → Value} {y7 y8 : Option Value} {w1 w2 w3 : Option Value} (ha : H.1 a = some (codeO c0 c1 c2 c3 c4 c5)) (h4 : H.1 c4 = some (.inl (.int, 16, P))) (hp : P 1 = .int p1) (k : K (some (.int (if takeB sum all p1 e = true then 1 else 0))) H) :
    eg_K cl kY 3 mt d (some .boolean) kd16.2.2.2.2 (168, [some (.ref a), w1, w2, w3, some (.int e), some (.int all), some (.int sum), y7, y8], [], H) K := by
  have R1 : takeB sum all p1 e = true → ∀ st, eg_K cl kY 3 mt d (some .boolean) kd16.2.2.2.2 (201, [some (.ref a), w1, w2, w3, some (.int e), some (.int all), some (.int sum), y7, y8], st, H) K ∨ st ≠ [] := by
    intro hB st
    by_cases hst : st = []
    · subst hst
      left
      refine g_p 202 rfl rfl rfl rfl ?_
      refine g_b 206 rfl rfl rfl ?_
      refine g_ret rfl ?_
      rw [if_pos hB] at k
      exact k
    · exact Or.inr hst
  have R0 : takeB sum all p1 e = false → eg_K cl kY 3 mt d (some .boolean) kd16.2.2.2.2 (205, [some (.ref a), w1, w2, w3, some (.int e), some (.int all), some (.int sum), y7, y8], [], H) K := by
    intro hB
    refine g_p 206 rfl rfl rfl rfl ?_
    refine g_ret rfl ?_
    rw [if_neg (by rw [hB]; decide)] at k
    exact k
  have R1' : takeB sum all p1 e = true → eg_K cl kY 3 mt d (some .boolean) kd16.2.2.2.2 (201, [some (.ref a), w1, w2, w3, some (.int e), some (.int all), some (.int sum), y7, y8], [], H) K := fun hB => (R1 hB []).resolve_right (fun z => z rfl)
  have T191 : ¬ sum = 32768 → ¬ (all = 1 ∧ p1 = 1) → eg_K cl kY 3 mt d (some .boolean) kd16.2.2.2.2 (191, [some (.ref a), w1, w2, w3, some (.int e), some (.int all), some (.int sum), y7, y8], [], H) K := by
    intro s1 s2
    refine g_v 193 _ rfl rfl rfl rfl ?_
    refine g_if 205 196 rfl rfl rfl (fun hc => ?_) (fun hc => ?_)
    · have h0 : ¬ all = 0 := of_decide_eq_true (show decide (¬ all = 0) = true from hc)
      refine R0 ?_
      simp only [takeB, Bool.or_eq_false_iff, Bool.and_eq_false_iff, decide_eq_false_iff_not]
      exact ⟨⟨s1, Decidable.not_and_iff_or_not.mp s2⟩, Or.inl h0⟩
    · have h0 : all = 0 := by
        have := of_decide_eq_false (show decide (¬ all = 0) = false from hc)
        exact Decidable.not_not.mp this
      refine g_v 198 _ rfl rfl rfl rfl ?_
      refine g_if 205 201 rfl rfl rfl (fun hc => ?_) (fun hc => ?_)
      · have he : e = 0 := of_decide_eq_true (show decide (e = 0) = true from hc)
        refine R0 ?_
        simp only [takeB, Bool.or_eq_false_iff, Bool.and_eq_false_iff, decide_eq_false_iff_not]
        refine ⟨⟨s1, Decidable.not_and_iff_or_not.mp s2⟩, Or.inr ?_⟩
        rw [he]; decide
      · have he : ¬ e = 0 := of_decide_eq_false (show decide (e = 0) = false from hc)
        refine R1' ?_
        simp [takeB, h0, he]
  refine g_v 170 _ rfl rfl rfl rfl ?_
  refine g_ldc 172 rfl (Or.inl ⟨rfl, rfl⟩) rfl rfl ?_
  refine g_icmp 201 175 rfl rfl rfl (fun hc => ?_) (fun hc => ?_)
  · have hs : sum = 32768 := of_decide_eq_true (show decide (sum = 32768) = true from hc)
    exact R1' (by simp [takeB, hs])
  · have hs : ¬ sum = 32768 := of_decide_eq_false (show decide (sum = 32768) = false from hc)
    refine g_v 177 _ rfl rfl rfl rfl ?_
    refine g_p 178 rfl rfl rfl rfl ?_
    refine g_icmp 191 181 rfl rfl rfl (fun hc => ?_) (fun hc => ?_)
    · have h1 : ¬ all = 1 := of_decide_eq_true (show decide (¬ all = 1) = true from hc)
      exact T191 hs (fun z => h1 z.1)
    · have h1 : all = 1 := Decidable.not_not.mp (of_decide_eq_false (show decide (¬ all = 1) = false from hc))
      refine g_v 182 _ rfl rfl rfl rfl ?_
      refine g_get 185 rfl rfl rfl ha rfl rfl ?_
      refine g_p 186 rfl rfl rfl rfl ?_
      refine g_iald 187 rfl h4 rfl (by decide) rfl ?_
      rw [show (Int32.ofInt 1).toNatClampNeg = 1 by decide, hp]
      refine g_p 188 rfl rfl rfl rfl ?_
      refine g_icmp 201 191 rfl rfl rfl (fun hc => ?_) (fun hc => ?_)
      · have hq : p1 = 1 := of_decide_eq_true (show decide (p1 = 1) = true from hc)
        exact R1' (by simp [takeB, h1, hq])
      · have hq : ¬ p1 = 1 := of_decide_eq_false (show decide (p1 = 1) = false from hc)
        exact T191 hs (fun z => hq z.2)
end TAKE2
