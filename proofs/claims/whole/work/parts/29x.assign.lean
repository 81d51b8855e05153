/-! THE CLASS'S CODES: Code.assign -/
section ASSIGN
variable {d : Nat} {h : eg_H} {a c0 c1 c2 c3 c4 c5 n : Nat} {g : Nat → Nat} {f4 : Nat → Value} {f5 : Nat → Int32} {f2 : Nat → Int32}
/-- the cells that assign() leaves: counts of lengths, next codes, codes of the first s symbols -/
def asH (h : eg_H) (c2 c4 c5 n : Nat) (P : Nat → Value) (F C : Nat → Int32) : eg_H := eg_upd (eg_upd (eg_upd h c4 (.inl (.int, 16, P))) c5 (.inl (.int, 17, fun l => .int (F l)))) c2 (.inl (.int, n, fun k => .int (C k)))
theorem asH_2 {P : Nat → Value} {F C : Nat → Int32} : (asH h c2 c4 c5 n P F C).1 c2 = some (.inl (.int, n, fun k => .int (C k))) := eg_upd_at _ _ _
theorem asH_5 {P : Nat → Value} {F C : Nat → Int32} (e : c5 ≠ c2) : (asH h c2 c4 c5 n P F C).1 c5 = some (.inl (.int, 17, fun l => .int (F l))) := (eg_upd_ne e).trans (eg_upd_at _ _ _)
theorem asH_4 {P : Nat → Value} {F C : Nat → Int32} (e : c4 ≠ c2) (e2 : c4 ≠ c5) : (asH h c2 c4 c5 n P F C).1 c4 = some (.inl (.int, 16, P)) := (eg_upd_ne e).trans ((eg_upd_ne e2).trans (eg_upd_at _ _ _))
theorem asH_ne {P : Nat → Value} {F C : Nat → Int32} {x : Nat} (e2 : x ≠ c2) (e4 : x ≠ c4) (e5 : x ≠ c5) : (asH h c2 c4 c5 n P F C).1 x = h.1 x := (eg_upd_ne e2).trans ((eg_upd_ne e5).trans (eg_upd_ne e4))
theorem asH_put5 {P : Nat → Value} {F C F2 : Nat → Int32} {w : Nat → Value} (e : c5 ≠ c2) (hw : w = fun l => .int (F2 l)) : eg_upd (asH h c2 c4 c5 n P F C) c5 (.inl (.int, 17, w)) = asH h c2 c4 c5 n P F2 C := by
  subst hw
  unfold asH
  rw [eg_upd_comm (Ne.symm e), eg_upd2]
theorem asH_put2 {P : Nat → Value} {F C C2 : Nat → Int32} {w : Nat → Value} (hw : w = fun l => .int (C2 l)) : eg_upd (asH h c2 c4 c5 n P F C) c2 (.inl (.int, n, w)) = asH h c2 c4 c5 n P F C2 := by
  subst hw
  unfold asH
  rw [eg_upd2]
theorem upd_int (F : Nat → Int32) (i : Nat) (x : Int32) : updV (fun l => Value.int (F l)) i (narrow .int (.int x)) = fun l => Value.int (if l = i then x else F l) := by
  funext l
  simp only [updV]
  by_cases e : l = i
  · rw [if_pos e, if_pos e]; rfl
  · rw [if_neg e, if_neg e]
/-- the inner loop: a code turned round -/
theorem assign_turn {H : eg_H} {cc : Int32} {s L : Nat} (hL : L < 16) {K : Option Value → eg_H → Prop} (k : ∀ x6 : Int32, eg_K cl kY 3 mt d none kd8.2.2.2.2 (108, [some (.ref a), some (.int (fcod (plen g n) 15)), some (.int (nI s)), some (.int (nI L)), some (.int cc), some (.int (tcod cc L)), some (.int x6)], [], H) K) :
    ∀ (m j : Nat), j ≤ L → L ≤ j + m → eg_K cl kY 3 mt d none kd8.2.2.2.2 (82, [some (.ref a), some (.int (fcod (plen g n) 15)), some (.int (nI s)), some (.int (nI L)), some (.int cc), some (.int (tcod cc j)), some (.int (nI j))], [], H) K := by
  intro m
  induction m with
  | zero =>
    intro j hj hm
    have e : j = L := by omega
    subst e
    refine g_v 84 _ rfl rfl rfl rfl ?_
    refine g_v 85 _ rfl rfl rfl rfl ?_
    refine g_icmp 108 88 rfl rfl rfl (fun _ => k _) (fun hc => absurd ((cond_ge (by omega) (by omega) hc).mpr (Nat.le_refl j)) (by decide))
  | succ m ih =>
    intro j hj hm
    by_cases he : j = L
    · exact ih j hj (by omega)
    refine g_v 84 _ rfl rfl rfl rfl ?_
    refine g_v 85 _ rfl rfl rfl rfl ?_
    refine g_icmp 108 88 rfl rfl rfl (fun hc => absurd ((cond_ge (by omega) (by omega) hc).mp rfl) (by omega)) (fun _ => ?_)
    refine g_v 90 _ rfl rfl rfl rfl ?_
    refine g_p 91 rfl rfl rfl rfl ?_
    refine g_p 92 rfl rfl rfl rfl ?_
    refine g_v 94 _ rfl rfl rfl rfl ?_
    refine g_v 96 _ rfl rfl rfl rfl ?_
    refine g_p 97 rfl rfl rfl rfl ?_
    refine g_p 98 rfl rfl rfl rfl ?_
    refine g_p 99 rfl rfl rfl rfl ?_
    refine g_p 100 rfl rfl rfl rfl ?_
    refine g_v 102 _ rfl rfl rfl rfl ?_
    refine g_v 105 _ rfl rfl rfl rfl ?_
    refine g_b 82 rfl rfl rfl ?_
    have K9 := ih (j + 1) (by omega) (by omega)
    rw [show nI (j + 1) = nI j + Int32.ofInt 1 from (nI_1 j).symm] at K9
    exact K9
/-- the loop over symbols -/
theorem assign_syms {P : Nat → Value} {f0 : Nat → Int32} (ha : h.1 a = some (codeO c0 c1 c2 c3 c4 c5)) (h1 : h.1 c1 = some (.inl (.int, n, fun k => .int (nI (g k))))) (n2 : a ≠ c2) (n4 : a ≠ c4) (n5 : a ≠ c5) (m2 : c1 ≠ c2) (m4 : c1 ≠ c4) (m5 : c1 ≠ c5) (p25 : c5 ≠ c2) (t2 : 3 ≤ c2) (t5 : 3 ≤ c5) (hn : n < 2 ^ 31) (hg : ∀ k, k < n → g k < 16) :
    ∀ (m s : Nat) (l : eg_L), s ≤ n → n ≤ s + m → (∃ y3 y4 y5 y6, l = [some (.ref a), some (.int (fcod (plen g n) 15)), some (.int (nI s)), y3, y4, y5, y6]) →
      eg_K cl kY 3 mt d none kd8.2.2.2.2 (42, l, [], asH h c2 c4 c5 n P (ncod g f0 s) (fun k => if k < s then acod g f0 k else f2 k))
        (fun v h2 => v = none ∧ ∃ F, h2 = asH h c2 c4 c5 n P F (fun k => if k < n then acod g f0 k else f2 k)) := by
  intro m
  induction m with
  | zero =>
    rintro s l hs hm ⟨y3, y4, y5, y6, rfl⟩
    have e : s = n := by omega
    subst e
    refine g_v 43 _ rfl rfl rfl rfl ?_
    refine g_v 44 _ rfl rfl rfl rfl ?_
    refine g_get 47 rfl rfl rfl ((asH_ne n2 n4 n5).trans ha) rfl rfl ?_
    refine g_len 48 rfl ((asH_ne m2 m4 m5).trans h1) rfl ?_
    refine g_icmp 122 51 rfl rfl rfl (fun _ => g_ret rfl ⟨rfl, _, rfl⟩) (fun hc => absurd ((cond_ge (by omega) (by omega) (show eg_cnd .ge (nI s) (nI s) = false from hc)).mpr (Nat.le_refl s)) (by decide))
  | succ m ih =>
    rintro s l hs hm ⟨y3, y4, y5, y6, rfl⟩
    by_cases he : s = n
    · exact ih s _ hs (by omega) ⟨y3, y4, y5, y6, rfl⟩
    have hlt : s < n := by omega
    have hgs := hg s hlt
    refine g_v 43 _ rfl rfl rfl rfl ?_
    refine g_v 44 _ rfl rfl rfl rfl ?_
    refine g_get 47 rfl rfl rfl ((asH_ne n2 n4 n5).trans ha) rfl rfl ?_
    refine g_len 48 rfl ((asH_ne m2 m4 m5).trans h1) rfl ?_
    refine g_icmp 122 51 rfl rfl rfl (fun hc => absurd ((cond_ge (by omega) (by omega) (show eg_cnd .ge (nI s) (nI n) = true from hc)).mp rfl) (by omega)) (fun _ => ?_)
    refine g_v 52 _ rfl rfl rfl rfl ?_
    refine g_get 55 rfl rfl rfl ((asH_ne n2 n4 n5).trans ha) rfl rfl ?_
    refine g_v 56 _ rfl rfl rfl rfl ?_
    refine g_iald 57 rfl ((asH_ne m2 m4 m5).trans h1) rfl (eg_in_nI hlt hn) rfl ?_
    rw [nI_clamp (show s < 2 ^ 31 by omega)]
    refine g_v 58 [some (.ref a), some (.int (fcod (plen g n) 15)), some (.int (nI s)), some (.int (nI (g s))), y4, y5, y6] rfl rfl rfl rfl ?_
    refine g_v 59 _ rfl rfl rfl rfl ?_
    refine g_get 62 rfl rfl rfl ((asH_ne n2 n4 n5).trans ha) rfl rfl ?_
    refine g_v 63 _ rfl rfl rfl rfl ?_
    refine g_iald 64 rfl (asH_5 p25) rfl (eg_in_nI (show g s < 17 by omega) (by decide)) rfl ?_
    rw [nI_clamp (show g s < 2 ^ 31 by omega)]
    refine g_v 66 [some (.ref a), some (.int (fcod (plen g n) 15)), some (.int (nI s)), some (.int (nI (g s))), some (.int (ncod g f0 s (g s))), y5, y6] rfl rfl rfl rfl ?_
    refine g_v 67 _ rfl rfl rfl rfl ?_
    refine g_get 70 rfl rfl rfl ((asH_ne n2 n4 n5).trans ha) rfl rfl ?_
    refine g_v 71 _ rfl rfl rfl rfl ?_
    refine g_p 72 rfl rfl rfl rfl ?_
    refine g_iald 73 rfl (asH_5 p25) rfl (eg_in_nI (show g s < 17 by omega) (by decide)) rfl ?_
    rw [nI_clamp (show g s < 2 ^ 31 by omega)]
    refine g_p 74 rfl rfl rfl rfl ?_
    refine g_p 75 rfl rfl rfl rfl ?_
    refine g_iast 76 rfl (asH_5 p25) rfl rfl (eg_in_nI (show g s < 17 by omega) (by decide)) t5 rfl ?_
    rw [nI_clamp (show g s < 2 ^ 31 by omega), upd_int, asH_put5 (F2 := ncod g f0 (s + 1)) p25 (by
      funext l
      simp only [ncod]
      by_cases e : l = g s
      · subst e; rw [if_pos rfl]
      · rw [if_neg e, if_neg e])]
    refine g_p 77 rfl rfl rfl rfl ?_
    refine g_v 79 [some (.ref a), some (.int (fcod (plen g n) 15)), some (.int (nI s)), some (.int (nI (g s))), some (.int (ncod g f0 s (g s))), some (.int (Int32.ofInt 0)), y6] rfl rfl rfl rfl ?_
    refine g_p 80 rfl rfl rfl rfl ?_
    refine g_v 82 [some (.ref a), some (.int (fcod (plen g n) 15)), some (.int (nI s)), some (.int (nI (g s))), some (.int (ncod g f0 s (g s))), some (.int (Int32.ofInt 0)), some (.int (nI 0))] rfl rfl rfl rfl ?_
    refine assign_turn hgs (fun x6 => ?_) (g s) 0 (Nat.zero_le _) (by omega)
    refine g_v 109 _ rfl rfl rfl rfl ?_
    refine g_get 112 rfl rfl rfl ((asH_ne n2 n4 n5).trans ha) rfl rfl ?_
    refine g_v 113 _ rfl rfl rfl rfl ?_
    refine g_v 115 _ rfl rfl rfl rfl ?_
    refine g_iast 116 rfl asH_2 rfl rfl (eg_in_nI hlt hn) t2 rfl ?_
    rw [nI_clamp (show s < 2 ^ 31 by omega), upd_int, asH_put2 (C2 := fun k => if k < s + 1 then acod g f0 k else f2 k) (by
      funext k
      by_cases e : k = s
      · subst e
        rw [if_pos rfl, if_pos (by omega)]
        rfl
      · by_cases e2 : k < s
        · rw [if_neg e, if_pos e2, if_pos (by omega)]
        · rw [if_neg e, if_neg e2, if_neg (by omega)])]
    refine g_v 119 _ rfl rfl rfl rfl ?_
    refine g_b 42 rfl rfl rfl ?_
    refine ih (s + 1) _ (by omega) (by omega) ⟨some (.int (nI (g s))), some (.int (ncod g f0 s (g s))), some (.int (tcod (ncod g f0 s (g s)) (g s))), some (.int x6), ?_⟩
    rw [show nI (s + 1) = nI s + Int32.ofInt 1 from (nI_1 s).symm]
    rfl
/-- what the next codes are before the first symbol -/
def fco0 (g : Nat → Nat) (n : Nat) (f5 : Nat → Int32) (i l : Nat) : Int32 := if l = 0 then f5 0 else if l < i then fcod (plen g n) l else f5 l
/-- the loop over lengths -/
theorem assign_firsts {P : Nat → Value} (hP : ∀ l, l < 16 → P l = .int (plen g n l)) (ha : h.1 a = some (codeO c0 c1 c2 c3 c4 c5)) (h1 : h.1 c1 = some (.inl (.int, n, fun k => .int (nI (g k))))) (n2 : a ≠ c2) (n4 : a ≠ c4) (n5 : a ≠ c5) (m2 : c1 ≠ c2) (m4 : c1 ≠ c4) (m5 : c1 ≠ c5) (p25 : c5 ≠ c2) (p24 : c4 ≠ c2) (p45 : c4 ≠ c5) (t2 : 3 ≤ c2) (t5 : 3 ≤ c5) (hn : n < 2 ^ 31) (hg : ∀ k, k < n → g k < 16) :
    ∀ (m j : Nat), j ≤ 15 → 15 ≤ j + m →
      eg_K cl kY 3 mt d none kd8.2.2.2.2 (8, [some (.ref a), some (.int (fcod (plen g n) j)), some (.int (nI (j + 1))), none, none, none, none], [], asH h c2 c4 c5 n P (fco0 g n f5 (j + 1)) f2)
        (fun v h2 => v = none ∧ ∃ F, h2 = asH h c2 c4 c5 n P F (fun k => if k < n then acod g (fco0 g n f5 16) k else f2 k)) := by
  have e16 : (Int8.ofInt 16).toInt32 = nI 16 := by decide
  have o1 : Int32.ofInt 1 = 1 := by decide
  intro m
  induction m with
  | zero =>
    intro j hj hm
    have e : j = 15 := by omega
    subst e
    refine g_v 9 _ rfl rfl rfl rfl ?_
    refine g_p 11 rfl rfl rfl rfl ?_
    refine g_b 40 rfl rfl rfl ?_
    refine g_p 41 rfl rfl rfl rfl ?_
    refine g_v 42 [some (.ref a), some (.int (fcod (plen g n) 15)), some (.int (nI 0)), none, none, none, none] rfl rfl rfl rfl ?_
    have K := assign_syms (d := d) (P := P) (f2 := f2) (f0 := fco0 g n f5 16) ha h1 n2 n4 n5 m2 m4 m5 p25 t2 t5 hn hg n 0 [some (.ref a), some (.int (fcod (plen g n) 15)), some (.int (nI 0)), none, none, none, none] (Nat.zero_le n) (by omega) ⟨none, none, none, none, rfl⟩
    rw [show (fun k => if k < 0 then acod g (fco0 g n f5 16) k else f2 k) = f2 by funext k; rw [if_neg (by omega)]] at K
    exact K
  | succ m ih =>
    intro j hj hm
    by_cases he : j = 15
    · exact ih j hj (by omega)
    refine g_v 9 _ rfl rfl rfl rfl ?_
    refine g_p 11 rfl rfl rfl rfl ?_
    rw [e16]
    refine g_icmp 40 14 rfl rfl rfl (fun hc => absurd ((cond_ge (by omega) (by omega) hc).mp rfl) (by omega)) (fun _ => ?_)
    refine g_v 15 _ rfl rfl rfl rfl ?_
    refine g_v 16 _ rfl rfl rfl rfl ?_
    refine g_get 19 rfl rfl rfl ((asH_ne n2 n4 n5).trans ha) rfl rfl ?_
    refine g_v 20 _ rfl rfl rfl rfl ?_
    refine g_p 21 rfl rfl rfl rfl ?_
    refine g_p 22 (st2 := [.int (nI j), .ref c4, .int (fcod (plen g n) j)]) rfl (show some [Value.int (nI (j + 1) - Int32.ofInt 1), .ref c4, .int (fcod (plen g n) j)] = _ by rw [show nI (j + 1) - Int32.ofInt 1 = nI j by rw [o1]; exact nI_pred j]) rfl rfl ?_
    refine g_iald 23 rfl (asH_4 p24 p45) rfl (eg_in_nI (show j < 16 by omega) (by decide)) rfl ?_
    rw [nI_clamp (show j < 2 ^ 31 by omega), hP j (by omega)]
    refine g_p 24 rfl rfl rfl rfl ?_
    refine g_p 25 rfl rfl rfl rfl ?_
    refine g_p 26 rfl rfl rfl rfl ?_
    refine g_v 27 [some (.ref a), some (.int (fcod (plen g n) (j + 1))), some (.int (nI (j + 1))), none, none, none, none] rfl rfl rfl rfl ?_
    refine g_v 28 _ rfl rfl rfl rfl ?_
    refine g_get 31 rfl rfl rfl ((asH_ne n2 n4 n5).trans ha) rfl rfl ?_
    refine g_v 32 _ rfl rfl rfl rfl ?_
    refine g_v 33 _ rfl rfl rfl rfl ?_
    refine g_iast 34 rfl (asH_5 p25) rfl rfl (eg_in_nI (show j + 1 < 17 by omega) (by decide)) t5 rfl ?_
    rw [nI_clamp (show j + 1 < 2 ^ 31 by omega), upd_int, asH_put5 (F2 := fco0 g n f5 (j + 2)) p25 (by
      funext l
      unfold fco0
      by_cases e : l = j + 1
      · rw [if_pos e, if_neg (by omega), if_pos (by omega), e]
      · by_cases e0 : l = 0
        · rw [if_neg e, if_pos e0, if_pos e0]
        · by_cases e1 : l < j + 1
          · rw [if_neg e, if_neg e0, if_pos e1, if_neg e0, if_pos (by omega)]
          · rw [if_neg e, if_neg e0, if_neg e1, if_neg e0, if_neg (by omega)])]
    refine g_v 37 _ rfl rfl rfl rfl ?_
    refine g_b 8 rfl rfl rfl ?_
    have K := ih (j + 1) (by omega) (by omega)
    rw [show nI (j + 1 + 1) = nI (j + 1) + Int32.ofInt 1 from (nI_1 (j + 1)).symm] at K
    exact K
/-- Code.assign(): the codes of all symbols, turned round; counts of lengths; the next codes are somewhat behind -/
theorem assign_Y {P : Nat → Value} (hPe : P = fun l => if l < 16 then .int (plen g n l) else f4 l) (ha : h.1 a = some (codeO c0 c1 c2 c3 c4 c5)) (h1 : h.1 c1 = some (.inl (.int, n, fun k => .int (nI (g k))))) (h2 : h.1 c2 = some (.inl (.int, n, fun k => .int (f2 k)))) (h4 : h.1 c4 = some (.inl (.int, 16, f4))) (h5 : h.1 c5 = some (.inl (.int, 17, fun k => .int (f5 k))))
    (n2 : a ≠ c2) (n4 : a ≠ c4) (n5 : a ≠ c5) (m2 : c1 ≠ c2) (m4 : c1 ≠ c4) (m5 : c1 ≠ c5) (p25 : c5 ≠ c2) (p24 : c4 ≠ c2) (p45 : c4 ≠ c5) (t2 : 3 ≤ c2) (t4 : 3 ≤ c4) (t5 : 3 ≤ c5) (hn : n < 2 ^ 31) (hg : ∀ k, k < n → g k < 16) :
    eg_Y cl kY 3 mt (d + 2) 8 [.ref a] h (fun v h2 => v = none ∧ ∃ F, h2 = asH h c2 c4 c5 n P F (fun k => if k < n then acod g (fco0 g n f5 16) k else f2 k)) := by
  refine eg_Y.of (w := kd8) rfl rfl ?_
  refine g_v 1 _ rfl rfl rfl rfl ?_
  refine g_call 4 rfl (by simp only [eg_cq]; rw [show kd8.2.2.2.2.2 28 = some (6, 9, 0, .ref 6) from rfl]; simp [ha, codeO, eg_sum]; exact ⟨rfl, rfl, rfl⟩) rfl ?_
  refine (countLengths_Y (d := d) ha h1 h4 n4 m4 t4 hn hg).imp ?_
  rintro v hh ⟨rfl, rfl⟩
  refine g_p 5 rfl rfl rfl rfl ?_
  refine g_v 6 _ rfl rfl rfl rfl ?_
  refine g_p 7 rfl rfl rfl rfl ?_
  refine g_v 8 [some (.ref a), some (.int (fcod (plen g n) 0)), some (.int (nI 1)), none, none, none, none] rfl rfl rfl rfl ?_
  have K := assign_firsts (d := d + 1) (f5 := f5) (f2 := f2) (P := P) (h := h) (fun l hl => by rw [hPe]; exact if_pos hl) ha h1 n2 n4 n5 m2 m4 m5 p25 p24 p45 t2 t5 hn hg 15 0 (by omega) (by omega)
  have e : asH h c2 c4 c5 n P (fco0 g n f5 1) f2 = eg_upd h c4 (.inl (.int, 16, fun l => if l < 16 then (if l = 0 then .int 0 else .int (nI (pL g n l))) else f4 l)) := by
    unfold asH
    have eP : P = fun l => if l < 16 then (if l = 0 then .int 0 else .int (nI (pL g n l))) else f4 l := by
      rw [hPe]
      funext l
      by_cases e1 : l < 16
      · rw [if_pos e1, if_pos e1]
        unfold plen
        by_cases e2 : l = 0
        · rw [if_pos e2, if_pos e2]
        · rw [if_neg e2, if_neg e2]
      · rw [if_neg e1, if_neg e1]
    have eF : (fun l => Value.int (fco0 g n f5 1 l)) = fun l => .int (f5 l) := by
      funext l
      unfold fco0
      by_cases e0 : l = 0
      · rw [if_pos e0, e0]
      · rw [if_neg e0, if_neg (by omega)]
    rw [eF, ← eP, eg_upd_self (a := c5) ((eg_upd_ne (Ne.symm p45)).trans h5), eg_upd_self (a := c2) ((eg_upd_ne (Ne.symm p24)).trans h2)]
  rw [e] at K
  exact K
end ASSIGN
