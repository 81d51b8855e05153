/-! THE CLASS'S CODES: counting lengths, codes -/
/-- how many of the first s lengths are l -/
def pL (g : Nat → Nat) : Nat → Nat → Nat
  | 0, _ => 0
  | s + 1, l => pL g s l + if g s = l then 1 else 0
theorem pL_le (g : Nat → Nat) : ∀ s l, pL g s l ≤ s
  | 0, _ => Nat.le_refl 0
  | s + 1, l => by
    have := pL_le g s l
    simp only [pL]
    split <;> omega
def codeO (c0 c1 c2 c3 c4 c5 : Nat) : eg_C := .inr (6, [.ref c0, .ref c1, .ref c2, .ref c3, .ref c4, .ref c5])
section CODES2
variable {d : Nat} {h : eg_H} {a c0 c1 c2 c3 c4 c5 n : Nat} {g : Nat → Nat} {f4 : Nat → Value}
theorem cond_ge {x y : Nat} (hx : x < 2 ^ 31) (hy : y < 2 ^ 31) {b : Bool} (hc : eg_cnd .ge (nI x) (nI y) = b) : b = true ↔ y ≤ x := by
  subst hc
  show decide (nI y ≤ nI x) = true ↔ _
  rw [decide_eq_true_iff, nI_leI hy hx]
theorem countLengths_Y (ha : h.1 a = some (codeO c0 c1 c2 c3 c4 c5)) (h1 : h.1 c1 = some (.inl (.int, n, fun k => .int (nI (g k))))) (h4 : h.1 c4 = some (.inl (.int, 16, f4))) (ha4 : a ≠ c4) (h14 : c1 ≠ c4) (h43 : 3 ≤ c4) (hn : n < 2 ^ 31) (hg : ∀ k, k < n → g k < 16) :
    eg_Y cl kY 3 mt (d + 1) 9 [.ref a] h (fun v h2 => v = none ∧ h2 = eg_upd h c4 (.inl (.int, 16, fun l => if l < 16 then (if l = 0 then .int 0 else .int (nI (pL g n l))) else f4 l))) := by
  refine eg_Y.of (w := kd9) rfl rfl ?_
  -- the second loop
  have L2 : ∀ (m s : Nat), s ≤ n → n ≤ s + m → eg_K cl kY 3 mt d none kd9.2.2.2.2 (23, [some (.ref a), some (.int (nI s))], [], eg_upd h c4 (.inl (.int, 16, fun l => if l < 16 then .int (nI (pL g s l)) else f4 l)))
      (fun v h2 => v = none ∧ h2 = eg_upd h c4 (.inl (.int, 16, fun l => if l < 16 then (if l = 0 then .int 0 else .int (nI (pL g n l))) else f4 l))) := by
    intro m
    induction m with
    | zero =>
      intro s hs hm
      have e : s = n := by omega
      subst e
      refine g_v 24 _ rfl rfl rfl rfl ?_
      refine g_v 25 _ rfl rfl rfl rfl ?_
      refine g_get 28 rfl rfl rfl ((eg_upd_ne ha4).trans ha) rfl rfl ?_
      refine g_len 29 rfl ((eg_upd_ne h14).trans h1) rfl ?_
      refine g_icmp 53 32 rfl rfl rfl (fun _ => ?_) (fun hc => absurd ((cond_ge (by omega) (by omega) (show eg_cnd .ge (nI s) (nI s) = false from hc)).mpr (Nat.le_refl s)) (by decide))
      refine g_v 54 _ rfl rfl rfl rfl ?_
      refine g_get 57 rfl rfl rfl ((eg_upd_ne ha4).trans ha) rfl rfl ?_
      refine g_p 58 rfl rfl rfl rfl ?_
      refine g_p 59 rfl rfl rfl rfl ?_
      refine g_iast 60 rfl (eg_upd_at _ _ _) rfl rfl (by decide) h43 rfl ?_
      refine g_ret rfl ⟨rfl, ?_⟩
      show eg_upd (eg_upd h c4 _) c4 _ = _
      rw [eg_upd2]
      congr 4
      funext l
      have z : (Int32.ofInt 0).toNatClampNeg = 0 := by decide
      rw [z]
      simp only [updV]
      by_cases e0 : l = 0
      · subst e0
        rw [if_pos rfl, if_pos (by omega), if_pos rfl]
        rfl
      · by_cases e1 : l < 16
        · rw [if_neg e0, if_pos e1, if_pos e1, if_neg e0]
        · rw [if_neg e0, if_neg e1, if_neg e1]
    | succ m ih =>
      intro s hs hm
      by_cases he : s = n
      · exact ih s hs (by omega)
      have hlt : s < n := by omega
      refine g_v 24 _ rfl rfl rfl rfl ?_
      refine g_v 25 _ rfl rfl rfl rfl ?_
      refine g_get 28 rfl rfl rfl ((eg_upd_ne ha4).trans ha) rfl rfl ?_
      refine g_len 29 rfl ((eg_upd_ne h14).trans h1) rfl ?_
      refine g_icmp 53 32 rfl rfl rfl (fun hc => absurd ((cond_ge (by omega) (by omega) (show eg_cnd .ge (nI s) (nI n) = true from hc)).mp rfl) (by omega)) (fun _ => ?_)
      refine g_v 33 _ rfl rfl rfl rfl ?_
      refine g_get 36 rfl rfl rfl ((eg_upd_ne ha4).trans ha) rfl rfl ?_
      refine g_v 37 _ rfl rfl rfl rfl ?_
      refine g_get 40 rfl rfl rfl ((eg_upd_ne ha4).trans ha) rfl rfl ?_
      refine g_v 41 _ rfl rfl rfl rfl ?_
      refine g_iald 42 rfl ((eg_upd_ne h14).trans h1) rfl (eg_in_nI hlt hn) rfl ?_
      rw [nI_clamp (show s < 2 ^ 31 by omega)]
      have hgs := hg s hlt
      refine g_p 43 rfl rfl rfl rfl ?_
      refine g_iald 44 rfl (eg_upd_at _ _ _) rfl (eg_in_nI hgs (by decide)) rfl ?_
      rw [nI_clamp (show g s < 2 ^ 31 by omega), if_pos hgs]
      refine g_p 45 rfl rfl rfl rfl ?_
      refine g_p 46 rfl rfl rfl rfl ?_
      refine g_iast 47 rfl (eg_upd_at _ _ _) rfl rfl (eg_in_nI hgs (by decide)) h43 rfl ?_
      rw [eg_upd2, nI_clamp (show g s < 2 ^ 31 by omega)]
      refine g_v 50 _ rfl rfl rfl rfl ?_
      refine g_b 23 rfl rfl rfl ?_
      have e1 : (updV (fun l => if l < 16 then Value.int (nI (pL g s l)) else f4 l) (g s) (narrow .int (.int (nI (pL g s (g s)) + Int32.ofInt 1)))) = fun l => if l < 16 then Value.int (nI (pL g (s + 1) l)) else f4 l := by
        funext l
        simp only [updV, pL]
        by_cases e : l = g s
        · subst e
          rw [if_pos rfl, if_pos hgs, if_pos rfl]
          show Value.int (nI (pL g s (g s)) + Int32.ofInt 1) = _
          rw [show nI (pL g s (g s)) + Int32.ofInt 1 = nI (pL g s (g s) + 1) from nI_1 _]
        · rw [if_neg e, show (if g s = l then 1 else 0) = 0 from if_neg (fun q => e q.symm)]
          rfl
      rw [e1]
      show eg_K cl kY 3 mt d none kd9.2.2.2.2 (23, [some (.ref a), some (.int (nI s + Int32.ofInt 1))], [], _) _
      rw [show nI s + Int32.ofInt 1 = nI (s + 1) from nI_1 s]
      exact ih (s + 1) (by omega) (by omega)
  have L1 : ∀ (m i : Nat), i ≤ 16 → 16 ≤ i + m → eg_K cl kY 3 mt d none kd9.2.2.2.2 (2, [some (.ref a), some (.int (nI i))], [], eg_upd h c4 (.inl (.int, 16, fun l => if l < i then .int 0 else f4 l)))
      (fun v h2 => v = none ∧ h2 = eg_upd h c4 (.inl (.int, 16, fun l => if l < 16 then (if l = 0 then .int 0 else .int (nI (pL g n l))) else f4 l))) := by
    have e16 : (Int8.ofInt 16).toInt32 = nI 16 := by decide
    intro m
    induction m with
    | zero =>
      intro i hi hm
      have e : i = 16 := by omega
      subst e
      refine g_v 3 _ rfl rfl rfl rfl ?_
      refine g_p 5 rfl rfl rfl rfl ?_
      refine g_b 21 rfl rfl rfl ?_
      refine g_p 22 rfl rfl rfl rfl ?_
      refine g_v 23 _ rfl rfl rfl rfl ?_
      exact L2 n 0 (Nat.zero_le n) (by omega)
    | succ m ih =>
      intro i hi hm
      by_cases he : i = 16
      · exact ih i hi (by omega)
      have hlt : i < 16 := by omega
      refine g_v 3 _ rfl rfl rfl rfl ?_
      refine g_p 5 rfl rfl rfl rfl ?_
      rw [e16]
      refine g_icmp 21 8 rfl rfl rfl (fun hc => absurd ((cond_ge (by omega) (by omega) hc).mp rfl) (by omega)) (fun _ => ?_)
      refine g_v 9 _ rfl rfl rfl rfl ?_
      refine g_get 12 rfl rfl rfl ((eg_upd_ne ha4).trans ha) rfl rfl ?_
      refine g_v 13 _ rfl rfl rfl rfl ?_
      refine g_p 14 rfl rfl rfl rfl ?_
      refine g_iast 15 rfl (eg_upd_at _ _ _) rfl rfl (eg_in_nI hlt (by decide)) h43 rfl ?_
      rw [eg_upd2, nI_clamp (show i < 2 ^ 31 by omega)]
      refine g_v 18 _ rfl rfl rfl rfl ?_
      refine g_b 2 rfl rfl rfl ?_
      have e1 : (updV (fun l => if l < i then Value.int 0 else f4 l) i (narrow .int (.int (Int32.ofInt 0)))) = fun l => if l < i + 1 then Value.int 0 else f4 l := by
        funext l
        simp only [updV]
        by_cases e : l = i
        · subst e
          rw [if_pos rfl, if_pos (by omega)]
          rfl
        · by_cases e2 : l < i
          · rw [if_neg e, if_pos e2, if_pos (by omega)]
          · rw [if_neg e, if_neg e2, if_neg (by omega)]
      rw [e1]
      show eg_K cl kY 3 mt d none kd9.2.2.2.2 (2, [some (.ref a), some (.int (nI i + Int32.ofInt 1))], [], _) _
      rw [show nI i + Int32.ofInt 1 = nI (i + 1) from nI_1 i]
      exact ih (i + 1) (by omega) (by omega)
  refine g_p 1 rfl rfl rfl rfl ?_
  refine g_v 2 _ rfl rfl rfl rfl ?_
  have e : h = eg_upd h c4 (.inl (.int, 16, fun l => if l < 0 then .int 0 else f4 l)) := by
    have e2 : (fun l => if l < 0 then Value.int 0 else f4 l) = f4 := by funext k; rw [if_neg (by omega)]
    rw [e2]
    exact (eg_upd_self h4).symm
  have K := L1 16 0 (by omega) (by omega)
  rw [← e] at K
  exact K
theorem eg_upd_comm {h : eg_H} {x y : Nat} {p q : eg_C} (e : x ≠ y) : eg_upd (eg_upd h x p) y q = eg_upd (eg_upd h y q) x p := by
  unfold eg_upd
  refine Prod.ext ?_ rfl
  funext k
  dsimp only
  by_cases e1 : k = x
  · have e2 : ¬ k = y := fun z => e (e1.symm.trans z)
    rw [if_pos e1, if_neg e2, if_pos e1]
  · by_cases e2 : k = y
    · rw [if_pos e2, if_neg e1, if_pos e2]
    · rw [if_neg e2, if_neg e1, if_neg e1, if_neg e2]
/-- the first code of each length, out of how many codes each length has -/
def fcod (p : Nat → Int32) : Nat → Int32
  | 0 => Int32.ofInt 0
  | l + 1 => (fcod p l + p l) <<< (Int32.ofInt 1 &&& 31)
/-- a code's k lowest bits the other way round -/
def tcod (c : Int32) : Nat → Int32
  | 0 => Int32.ofInt 0
  | k + 1 => (tcod c k <<< (Int32.ofInt 1 &&& 31)) ||| ((c >>> (nI k &&& 31)) &&& Int32.ofInt 1)
/-- the next code of each length, behind s symbols -/
def ncod (g : Nat → Nat) (f : Nat → Int32) : Nat → Nat → Int32
  | 0 => f
  | s + 1 => fun l => if l = g s then ncod g f s l + Int32.ofInt 1 else ncod g f s l
def plen (g : Nat → Nat) (n l : Nat) : Int32 := if l = 0 then 0 else nI (pL g n l)
/-- the codes that assign() makes -/
def acod (g : Nat → Nat) (f : Nat → Int32) (s : Nat) : Int32 := tcod (ncod g f s (g s)) (g s)
end CODES2
