/-! PACKING: codes; the class -/
theorem rvB_r (v : Int) : ∀ k : Nat, 0 ≤ rvB v k ∧ rvB v k < 2 ^ k
  | 0 => by
    show (0 : Int) ≤ 0 ∧ (0 : Int) < 2 ^ 0
    decide
  | k + 1 => by
    have ih := rvB_r v k
    show 0 ≤ 2 * rvB v k + v / 2 ^ k % 2 ∧ 2 * rvB v k + v / 2 ^ k % 2 < 2 ^ (k + 1)
    rw [Int.pow_succ]
    generalize v / 2 ^ k = z
    omega
theorem fstL_r (ls : Int → Int) (n : Nat) : ∀ l : Nat, 0 ≤ fstL ls n l ∧ fstL ls n l ≤ n * (2 * 2 ^ l - 2)
  | 0 => by
    show (0 : Int) ≤ 0 ∧ (0 : Int) ≤ n * (2 * 2 ^ 0 - 2)
    simp
  | l + 1 => by
    have ih := fstL_r ls n l
    have c1 := cnt_nn ls l n
    show 0 ≤ 2 * (fstL ls n l + (if l = 0 then 0 else cnt ls n l)) ∧ 2 * (fstL ls n l + (if l = 0 then 0 else cnt ls n l)) ≤ n * (2 * 2 ^ (l + 1) - 2)
    have e : (n : Int) * (2 * 2 ^ (l + 1) - 2) = 2 * (n * (2 * 2 ^ l - 2)) + 2 * n := by
      rw [Int.pow_succ, Int.mul_sub, Int.mul_sub, Int.mul_sub]
      have : (n : Int) * (2 * (2 ^ l * 2)) = 2 * (n * (2 * 2 ^ l)) := by
        rw [← Int.mul_assoc 2 (2 ^ l) 2, ← Int.mul_assoc (n : Int), Int.mul_comm _ 2]
      rw [this]
      omega
    rw [e]
    split <;> omega
theorem fstL_b (ls : Int → Int) {n l : Nat} (hn : n ≤ 288) (hl : l ≤ 15) : 0 ≤ fstL ls n l ∧ fstL ls n l ≤ 20000000 := by
  have h := fstL_r ls n l
  have h2 : (2 : Int) ^ l ≤ 32768 := by
    have : l = 0 ∨ l = 1 ∨ l = 2 ∨ l = 3 ∨ l = 4 ∨ l = 5 ∨ l = 6 ∨ l = 7 ∨ l = 8 ∨ l = 9 ∨ l = 10 ∨ l = 11 ∨ l = 12 ∨ l = 13 ∨ l = 14 ∨ l = 15 := by omega
    rcases this with e | e | e | e | e | e | e | e | e | e | e | e | e | e | e | e <;> (rw [e]; decide)
  have h3 : (n : Int) * (2 * 2 ^ l - 2) ≤ 288 * 65534 := by
    have a1 : (n : Int) * (2 * 2 ^ l - 2) ≤ n * 65534 := Int.mul_le_mul_of_nonneg_left (by omega) (by omega)
    omega
  omega
/-- the cells of a code -/
def cqS (sh : Nat → Option Shp) (q c0 c1 c2 c4 c5 n : Nat) : Prop := (∃ c3 : Nat, shp sh q = some (.inr (6, [some (some c0), some (some c1), some (some c2), some (some c3), some (some c4), some (some c5)]))) ∧ (shp sh c0 = some (.inl (.int, n)) ∧ shp sh c1 = some (.inl (.int, n)) ∧ shp sh c2 = some (.inl (.int, n)) ∧ shp sh c4 = some (.inl (.int, 16)) ∧ shp sh c5 = some (.inl (.int, 17))) ∧ (3 ≤ c0 ∧ 3 ≤ c1 ∧ 3 ≤ c2 ∧ 3 ≤ c4 ∧ 3 ≤ c5) ∧ (c1 ≠ c0 ∧ c1 ≠ c2 ∧ c1 ≠ c4 ∧ c1 ≠ c5 ∧ c2 ≠ c4 ∧ c2 ≠ c5 ∧ c4 ≠ c5) ∧ n ≤ 288
section ASSIGN
variable {d nx zl : Nat} {K : Option TV → FH → Prop} {sh : Nat → Option Shp} {M : FM} {q c0 c1 c2 c4 c5 n : Nat} {ls : Int → Int}
theorem countLengths_Y (hq : cqS sh q c0 c1 c2 c4 c5 n) (hl : ∀ s : Nat, s < n → M c1 s = ls s ∧ 0 ≤ ls s ∧ ls s ≤ 15)
    (k : ∀ M2 : FM, (∀ x : Nat, x ≠ c4 → M2 x = M x) → M2 c4 0 = 0 → (∀ l : Nat, 1 ≤ l → l ≤ 15 → M2 c4 l = cnt ls n l) → K none (sh, M2, nx, zl)) : fm_Y (d + 1) 9 [.ref q] (sh, M, nx, zl) K := by
  obtain ⟨⟨c3, hs⟩, ⟨s0, s1, s2, s4, s5⟩, ⟨g0, g1, g2, g4, g5⟩, ⟨n0, n1, n2, n3, n4, n5, n6⟩, hn⟩ := hq
  refine m9 [gr q] ?_
  have L23 : ∀ (G s : Nat) (si : Int) (M1 : FM), ((n : Int) - si).toNat < G → si = s → s ≤ n → (∀ x : Nat, x ≠ c4 → M1 x = M x) → (∀ l : Nat, l ≤ 15 → M1 c4 l = cnt ls s l) → fm_X d kd9 23 [some (gr q), some (ti si)] [] (sh, M1, nx, zl) K := by
    intro G
    induction G with
    | zero => intro s si M1 z; omega
    | succ G ih =>
      intro s si M1 q1 q2 q3 F1 hc
      refine s9_23 d K _ _ _ ?_
      refine ⟨_, hs, ?_⟩
      refine ⟨_, _, s1, ?_⟩
      refine ⟨by omega, fun u => ?_, fun u => ?_⟩
      · refine ⟨_, hs, ?_⟩
        refine ⟨16, s4, ⟨by omega, by omega, by omega, by omega⟩, ?_⟩
        have es : s = n := by omega
        obtain ⟨P, gP⟩ : ∃ P : FM, P = pq M1 c4 0 0 := ⟨_, rfl⟩
        have T : K none (sh, P, nx, zl) := by
          refine k P (fun x hx => by rw [gP, pq_o _ _ _ hx]; exact F1 x hx) (by rw [gP, pq_at]) (fun l l1 l2 => ?_)
          rw [gP, pq_ne _ _ _ _ (by omega), hc l l2, es]
        rw [gP] at T
        exact T
      · obtain ⟨b1, b2, b3⟩ := hl s (by omega)
        have e1 : M1 c1 si = ls s := by
          rw [F1 c1 n2, q2]
          exact b1
        refine ⟨_, hs, ?_⟩
        refine ⟨_, hs, ?_⟩
        refine ⟨n, s1, ⟨by omega, by omega, by omega⟩, ?_⟩
        rw [e1]
        refine ⟨16, s4, ⟨by omega, by omega, by omega⟩, ?_⟩
        refine ⟨16, s4, ⟨by omega, by omega, by omega, by omega⟩, ?_⟩
        obtain ⟨P, gP⟩ : ∃ P : FM, P = pq M1 c4 (ls s) (M1 c4 (ls s) + 1) := ⟨_, rfl⟩
        have T : (o_inc 1 1 (fW d kd9 K 23) : FC) [some (gr q), some (ti si)] [] (sh, P, nx, zl) := by
          refine ih (s + 1) (si + 1) P (by omega) (by omega) (by omega) (fun x hx => by rw [gP, pq_o _ _ _ hx]; exact F1 x hx) (fun l l2 => ?_)
          show P c4 l = cnt ls s l + (if ls s = l then 1 else 0)
          rw [gP]
          by_cases e : (l : Int) = ls s
          · rw [e, pq_at, if_pos rfl, ← e, hc l l2]
          · rw [pq_ne _ _ _ _ e, if_neg (fun z => e z.symm), hc l l2, Int.add_zero]
        rw [gP] at T
        exact T
  have L2 : ∀ (G : Nat) (li : Int) (M1 : FM), ((16 : Int) - li).toNat < G → 0 ≤ li → li ≤ 16 → (∀ x : Nat, x ≠ c4 → M1 x = M x) → (∀ l : Int, 0 ≤ l → l < li → M1 c4 l = 0) → fm_X d kd9 2 [some (gr q), some (ti li)] [] (sh, M1, nx, zl) K := by
    intro G
    induction G with
    | zero => intro li M1 z; omega
    | succ G ih =>
      intro li M1 q1 q2 q3 F1 hc
      refine s9_2 d K _ _ _ ?_
      refine ⟨by omega, fun u => ?_, fun u => ?_⟩
      · exact L23 (n + 1) 0 0 M1 (by omega) rfl (by omega) F1 (fun l l2 => hc l (by omega) (by omega))
      · refine ⟨_, hs, ?_⟩
        refine ⟨16, s4, ⟨by omega, by omega, by omega, by omega⟩, ?_⟩
        obtain ⟨P, gP⟩ : ∃ P : FM, P = pq M1 c4 li 0 := ⟨_, rfl⟩
        have T : (o_inc 1 1 (fW d kd9 K 2) : FC) [some (gr q), some (ti li)] [] (sh, P, nx, zl) := by
          refine ih (li + 1) P (by omega) (by omega) (by omega) (fun x hx => by rw [gP, pq_o _ _ _ hx]; exact F1 x hx) (fun l l1 l2 => ?_)
          rw [gP]
          by_cases e : l = li
          · rw [e, pq_at]
          · rw [pq_ne _ _ _ _ e]
            exact hc l l1 (by omega)
        rw [gP] at T
        exact T
  exact L2 17 0 M (by omega) (by omega) (by omega) (fun _ _ => rfl) (fun l l1 l2 => by omega)
theorem assign_Y (hq : cqS sh q c0 c1 c2 c4 c5 n) (hl : ∀ s : Nat, s < n → M c1 s = ls s ∧ 0 ≤ ls s ∧ ls s ≤ 15)
    (k : ∀ M2 : FM, (∀ x : Nat, x ≠ c2 → x ≠ c4 → x ≠ c5 → M2 x = M x) → (∀ s : Nat, s < n → M2 c2 s = rvB (cdC ls n s) (ls s).toNat) → K none (sh, M2, nx, zl)) : fm_Y (d + 2) 8 [.ref q] (sh, M, nx, zl) K := by
  have hq' := hq
  obtain ⟨⟨c3, hs⟩, ⟨s0, s1, s2, s4, s5⟩, ⟨g0, g1, g2, g4, g5⟩, ⟨n0, n1, n2, n3, n4, n5, n6⟩, hn⟩ := hq
  refine m8 [gr q] ?_
  refine ⟨⟨_, hs⟩, ?_⟩
  refine countLengths_Y hq' hl (fun M1 F1 z0 hc => ?_)
  -- the symbols
  have L42 : ∀ (G s : Nat) (si xi : Int) (M2 : FM) (y3 y4 y5 y6 : Option TV), ((n : Int) - si).toNat < G → si = s → s ≤ n → (∀ x : Nat, x ≠ c2 → x ≠ c4 → x ≠ c5 → M2 x = M x) → (∀ l : Nat, 1 ≤ l → l ≤ 15 → M2 c5 l = fstL ls n l + cnt ls s l) → (∀ t : Nat, t < s → M2 c2 t = rvB (cdC ls n t) (ls t).toNat) → fm_X (d + 1) kd8 42 [some (gr q), some (ti xi), some (ti si), y3, y4, y5, y6] [] (sh, M2, nx, zl) K := by
    intro G
    induction G with
    | zero => intro s si xi M2 y3 y4 y5 y6 z; omega
    | succ G ih =>
      intro s si xi M2 y3 y4 y5 y6 q1 q2 q3 F2 h5 h2
      refine s8_42 (d + 1) K _ _ _ ?_
      refine ⟨_, hs, ?_⟩
      refine ⟨_, _, s1, ?_⟩
      refine ⟨by omega, fun u => ?_, fun u => ?_⟩
      · exact k M2 F2 (fun t ht => h2 t (by omega))
      · obtain ⟨b1, b2, b3⟩ := hl s (by omega)
        have e1 : M2 c1 si = ls s := by
          rw [F2 c1 n1 n2 n3, q2]
          exact b1
        obtain ⟨L, gL⟩ : ∃ L : Nat, ls s = L := ⟨(ls s).toNat, by omega⟩
        refine ⟨_, hs, ?_⟩
        refine ⟨n, s1, ⟨by omega, by omega, by omega⟩, ?_⟩
        rw [e1, gL]
        refine ⟨_, hs, ?_⟩
        refine ⟨17, s5, ⟨by omega, by omega, by omega⟩, ?_⟩
        refine ⟨_, hs, ?_⟩
        refine ⟨17, s5, ⟨by omega, by omega, by omega⟩, ?_⟩
        refine ⟨17, s5, ⟨by omega, by omega, by omega, by omega⟩, ?_⟩
        obtain ⟨P, gP⟩ : ∃ P : FM, P = pq M2 c5 L (M2 c5 L + 1) := ⟨_, rfl⟩
        obtain ⟨v, gv⟩ : ∃ v : Int, v = M2 c5 L := ⟨_, rfl⟩
        have L82 : ∀ (N j : Nat) (ji : Int), ((L : Int) - ji).toNat < N → ji = j → j ≤ L → fm_X (d + 1) kd8 82 [some (gr q), some (ti xi), some (ti si), some (ti L), some (ti v), some (ti (rvB v j)), some (ti ji)] [] (sh, P, nx, zl) K := by
          intro N
          induction N with
          | zero => intro j ji z; omega
          | succ N ih2 =>
            intro j ji p1 p2 p3
            refine s8_82 (d + 1) K _ _ _ ?_
            refine ⟨by omega, fun u2 => ?_, fun u2 => ?_⟩
            · refine ⟨_, hs, ?_⟩
              refine ⟨n, s2, ⟨by omega, by omega, by omega, by omega⟩, ?_⟩
              have ej : j = L := by omega
              obtain ⟨P2, gP2⟩ : ∃ P2 : FM, P2 = pq P c2 si (rvB v j) := ⟨_, rfl⟩
              have T : (o_inc 2 1 (fW (d + 1) kd8 K 42) : FC) [some (gr q), some (ti xi), some (ti si), some (ti L), some (ti v), some (ti (rvB v j)), some (ti ji)] [] (sh, P2, nx, zl) := by
                refine ih (s + 1) (si + 1) xi P2 _ _ _ _ (by omega) (by omega) (by omega) (fun x x1 x2 x3 => by rw [gP2, pq_o _ _ _ x1, gP, pq_o _ _ _ x3]; exact F2 x x1 x2 x3) (fun l l1 l2 => ?_) (fun t ht => ?_)
                · show P2 c5 l = fstL ls n l + (cnt ls s l + (if ls s = l then 1 else 0))
                  rw [gP2, pq_o _ _ _ (fun z => n5 z.symm), gP]
                  by_cases e : (l : Int) = L
                  · rw [e, pq_at, if_pos (by omega), ← e, h5 l l1 l2]
                    omega
                  · rw [pq_ne _ _ _ _ e, if_neg (by omega), h5 l l1 l2]
                    omega
                · rw [gP2]
                  by_cases e : (t : Int) = si
                  · have ets : t = s := by omega
                    have e9 : pq P c2 si (rvB v j) c2 t = rvB v j := by rw [e, pq_at]
                    rw [e9, ej, ets, gL, show (L : Int).toNat = L by omega]
                    by_cases eL : L = 0
                    · rw [eL]
                      rfl
                    · congr 1
                      unfold cdC
                      rw [gL, show (L : Int).toNat = L by omega, gv, h5 L (by omega) (by omega)]
                  · rw [pq_ne _ _ _ _ e, gP, pq_o _ _ _ n5]
                    exact h2 t (by omega)
              rw [gP2] at T
              exact T
            · have vb : 0 ≤ v ∧ v ≤ 20000288 := by
                have f1 := fstL_b ls hn (l := L) (by omega)
                have f2 := cnt_nn ls L s
                rw [gv, h5 L (by omega) (by omega)]
                omega
              refine ⟨by omega, ?_⟩
              refine ⟨_, i32_or2 (k := 1) (by omega) rfl rfl (by omega) (by omega), ?_⟩
              rw [show v / 2 ^ ji.toNat % 2 + rvB v j * 2 = rvB v (j + 1) by show _ = 2 * rvB v j + v / 2 ^ j % 2; rw [show ji.toNat = j by omega]; omega]
              exact ih2 (j + 1) (ji + 1) (by omega) (by omega) (by omega)
        have T : (o_ic 0 (o_is 5 (b8_79 (d + 1) (fW (d + 1) kd8 K) K)) : FC) [some (gr q), some (ti xi), some (ti si), some (ti L), some (ti v), y5, y6] [] (sh, P, nx, zl) := L82 (L + 1) 0 0 (by omega) rfl (by omega)
        rw [gP, gv] at T
        exact T
  -- the first codes
  have L8 : ∀ (G l : Nat) (li : Int) (M2 : FM), ((16 : Int) - li).toNat < G → li = l → 1 ≤ l → l ≤ 16 → (∀ x : Nat, x ≠ c5 → M2 x = M1 x) → (∀ t : Nat, 1 ≤ t → t < l → M2 c5 t = fstL ls n t) → fm_X (d + 1) kd8 8 [some (gr q), some (ti (fstL ls n (l - 1))), some (ti li), none, none, none, none] [] (sh, M2, nx, zl) K := by
    intro G
    induction G with
    | zero => intro l li M2 z; omega
    | succ G ih =>
      intro l li M2 q1 q2 q3 q4 F2 h5
      refine s8_8 (d + 1) K _ _ _ ?_
      refine ⟨by omega, fun u => ?_, fun u => ?_⟩
      · exact L42 (n + 1) 0 0 _ M2 _ _ _ _ (by omega) rfl (by omega) (fun x _ x2 x3 => by rw [F2 x x3]; exact F1 x x2) (fun t t1 t2 => by rw [h5 t t1 (by omega)]; show _ = fstL ls n t + 0; omega) (fun t ht => by omega)
      · obtain ⟨l', gl⟩ : ∃ l' : Nat, l = l' + 1 := ⟨l - 1, by omega⟩
        have e4 : M2 c4 (li - 1) = if l' = 0 then 0 else cnt ls n l' := by
          rw [F2 c4 n6, show li - 1 = (l' : Int) by omega]
          by_cases e : l' = 0
          · rw [if_pos e, e]
            exact z0
          · rw [if_neg e]
            exact hc l' (by omega) (by omega)
        refine ⟨_, hs, ?_⟩
        refine ⟨16, s4, ⟨by omega, by omega, by omega⟩, ?_⟩
        rw [e4, gl, show l' + 1 - 1 = l' by omega]
        have ef : (fstL ls n l' + (if l' = 0 then 0 else cnt ls n l')) * 2 = fstL ls n (l' + 1) := by
          show _ = 2 * (fstL ls n l' + (if l' = 0 then 0 else cnt ls n l'))
          rw [Int.mul_comm]
        have T0 : (o_is 1 (o_al 0 (o_get 6 5 5 (o_il 2 (o_il 1 (o_iast (o_inc 2 1 (fW (d + 1) kd8 K 8))))))) : FC) [some (gr q), some (ti (fstL ls n l')), some (ti li), none, none, none, none] [ti (fstL ls n (l' + 1))] (sh, M2, nx, zl) := by
          refine ⟨_, hs, ?_⟩
          refine ⟨17, s5, ⟨by omega, by omega, by omega, by omega⟩, ?_⟩
          obtain ⟨P, gP⟩ : ∃ P : FM, P = pq M2 c5 li (fstL ls n (l' + 1)) := ⟨_, rfl⟩
          have T : (o_inc 2 1 (fW (d + 1) kd8 K 8) : FC) [some (gr q), some (ti (fstL ls n (l' + 1))), some (ti li), none, none, none, none] [] (sh, P, nx, zl) := by
            have R := ih (l + 1) (li + 1) P (by omega) (by omega) (by omega) (by omega) (fun x hx => by rw [gP, pq_o _ _ _ hx]; exact F2 x hx) (fun t t1 t2 => by
              rw [gP]
              by_cases e : (t : Int) = li
              · rw [e, pq_at, show t = l' + 1 by omega]
              · rw [pq_ne _ _ _ _ e]
                exact h5 t t1 (by omega))
            rw [show l + 1 - 1 = l' + 1 by omega] at R
            exact R
          rw [gP] at T
          exact T
        rw [← ef] at T0
        exact T0
  exact L8 16 1 1 M1 (by omega) rfl (by omega) (by omega) (fun _ _ => rfl) (fun t t1 t2 => by omega)
end ASSIGN
