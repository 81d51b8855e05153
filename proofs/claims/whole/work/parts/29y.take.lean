/-! THE CLASS'S CODES: Code.fixDistances, Code.take -/
section TAKE
variable {d : Nat} {h : eg_H} {a b c0 c1 c2 c3 c4 c5 n N at0 r : Nat} {g : Nat → Nat} {f4 : Nat → Value} {f5 f3 : Nat → Int32}
/-- fixDistances's loop -/
theorem fixDistances_Y {q0 q2 q3 q4 q5 : Value} {f : Nat → Value} (ha : h.1 a = some (.inr (6, [q0, .ref b, q2, q3, q4, q5]))) (hb : h.1 b = some (.inl (.int, n, f))) (hab : a ≠ b) (hn : n < 2 ^ 31) (hb3 : 3 ≤ b) :
    eg_Y cl kY 3 mt (d + 1) 10 [.ref a] h (fun v h2 => v = none ∧ h2 = eg_upd h b (.inl (.int, n, fun k => if k < n then .int 5 else f k))) := by
  refine eg_Y.of (w := kd10) rfl rfl ?_
  have L : ∀ (m i : Nat), i ≤ n → n ≤ i + m → eg_K cl kY 3 mt d none kd10.2.2.2.2 (2, [some (.ref a), some (.int (nI i))], [], eg_upd h b (.inl (.int, n, fun k => if k < i then .int 5 else f k)))
      (fun v h2 => v = none ∧ h2 = eg_upd h b (.inl (.int, n, fun k => if k < n then .int 5 else f k))) := by
    intro m
    induction m with
    | zero =>
      intro i hi hm
      have e : i = n := by omega
      subst e
      refine g_v 3 _ rfl rfl rfl rfl ?_
      refine g_v 4 _ rfl rfl rfl rfl ?_
      refine g_get 7 rfl rfl rfl ((eg_upd_ne hab).trans ha) rfl rfl ?_
      refine g_len 8 rfl (eg_upd_at _ _ _) rfl ?_
      exact g_icmp 24 11 rfl rfl rfl (fun _ => g_ret rfl ⟨rfl, rfl⟩) (fun hc => absurd ((cond_ge (by omega) (by omega) (show eg_cnd .ge (nI i) (nI i) = false from hc)).mpr (Nat.le_refl i)) (by decide))
    | succ m ih =>
      intro i hi hm
      by_cases he : i = n
      · exact ih i hi (by omega)
      have hlt : i < n := by omega
      refine g_v 3 _ rfl rfl rfl rfl ?_
      refine g_v 4 _ rfl rfl rfl rfl ?_
      refine g_get 7 rfl rfl rfl ((eg_upd_ne hab).trans ha) rfl rfl ?_
      refine g_len 8 rfl (eg_upd_at _ _ _) rfl ?_
      refine g_icmp 24 11 rfl rfl rfl (fun hc => absurd ((cond_ge (by omega) (by omega) (show eg_cnd .ge (nI i) (nI n) = true from hc)).mp rfl) (by omega)) (fun _ => ?_)
      refine g_v 12 _ rfl rfl rfl rfl ?_
      refine g_get 15 rfl rfl rfl ((eg_upd_ne hab).trans ha) rfl rfl ?_
      refine g_v 16 _ rfl rfl rfl rfl ?_
      refine g_p 17 rfl rfl rfl rfl ?_
      refine g_iast 18 rfl (eg_upd_at _ _ _) rfl rfl (eg_in_nI hlt hn) hb3 rfl ?_
      rw [eg_upd2, nI_clamp (show i < 2 ^ 31 by omega)]
      refine g_v 21 _ rfl rfl rfl rfl ?_
      refine g_b 2 rfl rfl rfl ?_
      have e1 : (updV (fun k => if k < i then Value.int 5 else f k) i (narrow .int (.int (Int32.ofInt 5)))) = fun k => if k < i + 1 then Value.int 5 else f k := by
        funext k
        simp only [updV]
        by_cases e : k = i
        · subst e
          rw [if_pos rfl, if_pos (by omega)]
          rfl
        · by_cases e2 : k < i
          · rw [if_neg e, if_pos e2, if_pos (by omega)]
          · rw [if_neg e, if_neg e2, if_neg (by omega)]
      rw [e1]
      have K := ih (i + 1) (by omega) (by omega)
      rw [show nI (i + 1) = nI i + Int32.ofInt 1 from (nI_1 i).symm] at K
      exact K
  refine g_p 1 rfl rfl rfl rfl ?_
  refine g_v 2 _ rfl rfl rfl rfl ?_
  have e : h = eg_upd h b (.inl (.int, n, fun k => if k < 0 then .int 5 else f k)) := by
    have e2 : (fun k => if k < 0 then Value.int 5 else f k) = f := by funext k; rw [if_neg (by omega)]
    rw [e2]
    exact (eg_upd_self hb).symm
  have K := L n 0 (Nat.zero_le _) (by omega)
  rw [← e] at K
  exact K
/-- how many of the first s lengths are 1 .. j -/
def tL (g : Nat → Nat) (s : Nat) : Nat → Nat
  | 0 => 0
  | j + 1 => tL g s j + pL g s (j + 1)
theorem tL_succ (g : Nat → Nat) (s : Nat) : ∀ j, tL g (s + 1) j = tL g s j + if 1 ≤ g s ∧ g s ≤ j then 1 else 0
  | 0 => by
    simp only [tL]
    rw [if_neg (by omega)]
  | j + 1 => by
    simp only [tL, pL]
    rw [tL_succ g s j]
    by_cases e : g s = j + 1
    · rw [if_pos e, if_neg (by omega), if_pos (by omega)]
      omega
    · rw [if_neg e]
      by_cases e2 : 1 ≤ g s ∧ g s ≤ j
      · rw [if_pos e2, if_pos (by omega)]
        omega
      · rw [if_neg e2, if_neg (by omega)]
        omega
theorem tL_le (g : Nat → Nat) : ∀ s j, tL g s j ≤ s
  | 0, j => by
    induction j with
    | zero => exact Nat.le_refl 0
    | succ j ih => simp only [tL, pL]; omega
  | s + 1, j => by
    have := tL_le g s j
    rw [tL_succ]
    split <;> omega
theorem pL_mono (g : Nat → Nat) {s m : Nat} (l : Nat) (hs : s ≤ m) : pL g s l ≤ pL g m l := by
  induction m with
  | zero =>
    have : s = 0 := by omega
    subst this
    exact Nat.le_refl _
  | succ m ih =>
    by_cases e : s = m + 1
    · subst e; exact Nat.le_refl _
    · have := ih (by omega)
      simp only [pL]
      omega
/-- where the next symbol of length l goes: within the row -/
theorem rank_lt (g : Nat → Nat) {s m l : Nat} (hs : s < m) (hl : g s = l) (h1 : 1 ≤ l) : tL g m (l - 1) + pL g s l < tL g m l := by
  obtain ⟨j, rfl⟩ : ∃ j, l = j + 1 := ⟨l - 1, by omega⟩
  have h2 := pL_mono g (j + 1) (show s + 1 ≤ m by omega)
  have h3 : pL g (s + 1) (j + 1) = pL g s (j + 1) + 1 := by simp only [pL]; rw [if_pos hl]
  show tL g m j + pL g s (j + 1) < tL g m j + pL g m (j + 1)
  omega
end TAKE
