/-! UNPACKING, the class: codes from lengths -/
def sumL (ls : Int → Int) (n : Nat) : Nat → Int
  | 0 => 0
  | l + 1 => sumL ls n l + cnt ls n (l + 1 : Nat) * 2 ^ (15 - (l + 1))
theorem sumL_le (ls : Int → Int) (n : Nat) : ∀ l : Nat, 0 ≤ sumL ls n l ∧ sumL ls n l ≤ offL ls n l * 16384
  | 0 => by
    show (0 : Int) ≤ 0 ∧ (0 : Int) ≤ 0 * 16384
    omega
  | l + 1 => by
    have h := sumL_le ls n l
    have h2 := p2_mono (15 - (l + 1)) 14 (by omega)
    have h3 := two_pos (15 - (l + 1))
    have h4 := (cnt_nn ls (l + 1 : Nat) n).1
    have h5 : (2 : Int) ^ 14 = 16384 := by decide
    have h6 := mul_le4 (x := cnt ls n (l + 1 : Nat)) (y := 2 ^ (15 - (l + 1))) (a := cnt ls n (l + 1 : Nat)) (b := 16384) h4 (by omega) (by omega) (by omega)
    show 0 ≤ sumL ls n l + cnt ls n (l + 1 : Nat) * 2 ^ (15 - (l + 1)) ∧ sumL ls n l + cnt ls n (l + 1 : Nat) * 2 ^ (15 - (l + 1)) ≤ (offL ls n l + cnt ls n (l + 1 : Nat)) * 16384
    omega
theorem cntLt (ls : Int → Int) (l : Int) : ∀ (n s : Nat), s < n → ls s = l → cnt ls s l < cnt ls n l
  | 0, s, h, _ => by omega
  | n + 1, s, h, e => by
    show cnt ls s l < cnt ls n l + (if ls n = l then 1 else 0)
    by_cases q : s = n
    · rw [q] at e ⊢
      rw [if_pos e]
      omega
    · have := cntLt ls l n s (by omega) e
      split <;> omega
def okL (ls : Int → Int) (n : Nat) (z : Int) : Prop := sumL ls n 15 = 32768 ∨ (offL ls n 15 = 1 ∧ cnt ls n 1 = 1) ∨ (offL ls n 15 = 0 ∧ z ≠ 0)
section UTAKE
variable {d nx zl : Nat} {K : Option TV → FH → Prop} {sh : Nat → Option Shp} {M : FM} {cc c3 c4 c5 nR fr nF n : Nat} {at0 z : Int} {ls : Int → Int}
theorem tk118 (hcd : cdS sh cc c3 c4 c5 nR) (hn : n ≤ nR) (hfr : shp sh fr = some (.inl (.int, nF))) (hne : fr ≠ c3 ∧ fr ≠ c4 ∧ fr ≠ c5) (ha : 0 ≤ at0 ∧ at0 + n ≤ nF) (hnF : nF ≤ 400) (hls : ∀ s : Nat, s < n → M fr (at0 + s) = ls s ∧ 0 ≤ ls s ∧ ls s ≤ 15) (hz : z = 0 ∨ z = 1)
    (h4 : ∀ l : Nat, l ≤ 15 → M c4 l = cnt ls n l)
    (k : ∀ (r : Int) (M2 : FM), (r = 1 ∧ okL ls n z ∨ r = 0 ∧ ¬ okL ls n z) → cdV M2 c3 c4 ls n → (∀ c : Nat, c ≠ c3 → c ≠ c4 → c ≠ c5 → M2 c = M c) → K (some (ti r)) (sh, M2, nx, zl)) : ∀ (N s : Nat) (M2 : FM) (y8 : Option TV), n - s < N → s ≤ n → (∀ l : Nat, l ≤ 14 → M2 c5 (l + 1) = offL ls n l + cnt ls s (l + 1 : Nat)) → (∀ (l t : Nat), l ≤ 14 → t < s → ls t = (l + 1 : Nat) → M2 c3 (offL ls n l + cnt ls t (l + 1 : Nat)) = t) → (∀ c : Nat, c ≠ c3 → c ≠ c5 → M2 c = M c) → fm_X d kd16 118 [some (gr cc), some (gr fr), some (ti at0), some (ti n), some (ti z), some (ti (offL ls n 15)), some (ti (sumL ls n 15)), some (ti s), y8] [] (sh, M2, nx, zl) K := by
  obtain ⟨⟨c0, c1, c2, hcc⟩, ⟨h3s, h4s, h5s⟩, ⟨l3, l4, l5⟩, ⟨n34, n35, n45⟩, hnR, -⟩ := hcd
  have so := offL_le ls n 15
  have so0 := offL_mono ls n 0 15 (by omega)
  have so1 : (0 : Int) ≤ offL ls n 15 := so0
  have ss := sumL_le ls n 15
  intro N
  induction N with
  | zero => intro s M2 y8 a1; omega
  | succ N ih =>
    intro s M2 y8 a1 a2 a3 a4 a5
    have e4 : M2 c4 = M c4 := a5 c4 (fun e => n34 e.symm) n45
    refine s16_118 d K _ _ _ ?_
    refine ⟨by omega, fun w => ?_, fun w => ?_⟩
    · have es : s = n := by omega
      rw [es] at a4
      have hV : cdV M2 c3 c4 ls n := by
        refine ⟨fun l l1 l2 => by rw [e4]; exact h4 l (by omega), fun l j l1 j0 j1 => ?_⟩
        obtain ⟨t, t1, t2, t3⟩ := nth_ex ls (l + 1 : Nat) n j j0 j1
        rw [← t3, nth_at ls (l + 1 : Nat) n t t1 t2]
        exact a4 l t l1 t1 t2
      have hO : ∀ c : Nat, c ≠ c3 → c ≠ c4 → c ≠ c5 → M2 c = M c := fun c q1 _ q3 => a5 c q1 q3
      have e41 : M2 c4 1 = cnt ls n 1 := by rw [e4]; exact h4 1 (by omega)
      have cn1 := cnt_nn ls 1 n
      have YES : okL ls n z → K (some (ti 1)) (sh, M2, nx, zl) := fun h => k 1 M2 (Or.inl ⟨rfl, h⟩) hV hO
      have NO : ¬ okL ls n z → K (some (ti 0)) (sh, M2, nx, zl) := fun h => k 0 M2 (Or.inr ⟨rfl, h⟩) hV hO
      have B191 : sumL ls n 15 ≠ 32768 → ¬ (offL ls n 15 = 1 ∧ cnt ls n 1 = 1) → b16_191 d (fW d kd16 K) K [some (gr cc), some (gr fr), some (ti at0), some (ti n), some (ti z), some (ti (offL ls n 15)), some (ti (sumL ls n 15)), some (ti s), y8] [] (sh, M2, nx, zl) := by
        intro q1 q2
        refine ⟨by omega, fun w2 => ?_, fun w2 => ?_⟩
        · refine ⟨Or.inl rfl, NO (fun h => ?_)⟩
          rcases h with h | h | h
          · exact q1 h
          · exact q2 h
          · exact w2 h.1
        · refine ⟨by omega, fun w3 => ?_, fun w3 => ?_⟩
          · refine ⟨Or.inl rfl, NO (fun h => ?_)⟩
            rcases h with h | h | h
            · exact q1 h
            · exact q2 h
            · exact h.2 w3
          · exact ⟨Or.inr rfl, YES (Or.inr (Or.inr ⟨by omega, w3⟩))⟩
      refine ⟨by omega, fun w2 => ⟨Or.inr rfl, YES (Or.inl w2)⟩, fun w2 => ?_⟩
      refine ⟨by omega, fun w3 => B191 w2 (fun h => w3 h.1), fun w3 => ?_⟩
      refine ⟨_, hcc, ?_⟩
      refine ⟨16, h4s, by omega, ?_⟩
      refine ⟨by omega, fun w4 => ⟨Or.inr rfl, YES (Or.inr (Or.inl ⟨by omega, by rw [← e41]; exact w4⟩))⟩, fun w4 => B191 w2 (fun h => w4 (by rw [e41]; exact h.2))⟩
    · have hs : s < n := by omega
      obtain ⟨b1, b2, b3⟩ := hls s hs
      have efr : M2 fr = M fr := a5 fr hne.1 hne.2.2
      have ev : M2 fr (at0 + s) = ls s := by rw [efr]; exact b1
      refine ⟨nF, hfr, by omega, ?_⟩
      refine ⟨by omega, fun w2 => ?_, fun w2 => ?_⟩
      · have z0 : ls s = 0 := by omega
        refine ih (s + 1) M2 _ (by omega) (by omega) (fun l hl => ?_) (fun l t hl ht et => ?_) a5
        · rw [a3 l hl]
          show _ = offL ls n l + (cnt ls s (l + 1 : Nat) + (if ls s = (l + 1 : Nat) then 1 else 0))
          rw [if_neg (by omega)]
          omega
        · by_cases e : t = s
          · rw [e] at et
            omega
          · exact a4 l t hl (by omega) et
      · obtain ⟨m, hm⟩ : ∃ m : Nat, ls s = (m + 1 : Nat) := ⟨(ls s - 1).toNat, by omega⟩
        have hm14 : m ≤ 14 := by omega
        have e5 : M2 c5 (M2 fr (at0 + s)) = offL ls n m + cnt ls s (m + 1 : Nat) := by
          rw [ev, hm]
          exact a3 m hm14
        have q1 := cntLt ls (m + 1 : Nat) n s hs hm
        have q2 := offL_le ls n (m + 1)
        have q3 : offL ls n (m + 1) = offL ls n m + cnt ls n (m + 1 : Nat) := rfl
        have q4 := offL_mono ls n 0 m (by omega)
        have q5 : (0 : Int) ≤ offL ls n m := q4
        have q6 := (cnt_nn ls (m + 1 : Nat) s).1
        refine ⟨_, hcc, ?_⟩
        refine ⟨_, hcc, ?_⟩
        refine ⟨17, h5s, by omega, ?_⟩
        refine ⟨nR, h3s, by omega, ?_⟩
        refine ⟨_, hcc, ?_⟩
        refine ⟨17, h5s, by omega, ?_⟩
        refine ⟨17, h5s, by omega, ?_⟩
        obtain ⟨R, gR⟩ : ∃ R : FM, R = um (um M2 c3 (ur (M2 c3) (M2 c5 (M2 fr (at0 + s))) s)) c5 (ur (um M2 c3 (ur (M2 c3) (M2 c5 (M2 fr (at0 + s))) s) c5) (M2 fr (at0 + s)) (um M2 c3 (ur (M2 c3) (M2 c5 (M2 fr (at0 + s))) s) c5 (M2 fr (at0 + s)) + 1)) := ⟨_, rfl⟩
        have R5 : R c5 = ur (M2 c5) (M2 fr (at0 + s)) (M2 c5 (M2 fr (at0 + s)) + 1) := by rw [gR, um_at, um_ne (fun e => n35 e.symm)]
        have R3 : R c3 = ur (M2 c3) (offL ls n m + cnt ls s (m + 1 : Nat)) s := by rw [gR, um_ne n35, um_at, e5]
        have zz := ih (s + 1) R (some (ti (M2 fr (at0 + s)))) (by omega) (by omega) (fun l hl => ?_) (fun l t hl ht et => ?_) (fun c q1 q2 => by rw [gR, um_ne q2, um_ne q1]; exact a5 c q1 q2)
        · rw [gR] at zz
          exact zz
        · rw [R5, ev, hm]
          show _ = offL ls n l + (cnt ls s (l + 1 : Nat) + (if ls s = (l + 1 : Nat) then 1 else 0))
          by_cases e : l = m
          · have hu : ur (M2 c5) ((m + 1 : Nat) : Int) (M2 c5 ((m + 1 : Nat) : Int) + 1) ((m : Int) + 1) = M2 c5 ((m : Int) + 1) + 1 := by
              rw [show ((m + 1 : Nat) : Int) = (m : Int) + 1 by omega]
              exact ur_at _ _ _
            rw [e, hu, if_pos hm, a3 m hm14]
            omega
          · rw [ur_ne (by omega), if_neg (by omega), a3 l hl]
            omega
        · rw [R3]
          by_cases e : t = s
          · have el : l = m := by rw [e] at et; omega
            rw [e, el, ur_at]
          · have p1 := a4 l t hl (by omega) et
            have p2 := cntLt ls (l + 1 : Nat) n t (by omega) et
            have p3 : offL ls n (l + 1) = offL ls n l + cnt ls n (l + 1 : Nat) := rfl
            have p4 := (cnt_nn ls (l + 1 : Nat) t).1
            have p5 : offL ls n l + cnt ls t (l + 1 : Nat) ≠ offL ls n m + cnt ls s (m + 1 : Nat) := by
              by_cases el : l = m
              · rw [el] at et ⊢
                have := cntLt ls (m + 1 : Nat) s t (by omega) et
                omega
              · by_cases el2 : l < m
                · have := offL_mono ls n (l + 1) m (by omega)
                  omega
                · have := offL_mono ls n (m + 1) l (by omega)
                  omega
            rw [ur_ne p5]
            exact p1
theorem tk63 (hcd : cdS sh cc c3 c4 c5 nR) (hn : n ≤ nR) (hfr : shp sh fr = some (.inl (.int, nF))) (hne : fr ≠ c3 ∧ fr ≠ c4 ∧ fr ≠ c5) (ha : 0 ≤ at0 ∧ at0 + n ≤ nF) (hnF : nF ≤ 400) (hls : ∀ s : Nat, s < n → M fr (at0 + s) = ls s ∧ 0 ≤ ls s ∧ ls s ≤ 15) (hz : z = 0 ∨ z = 1)
    (h4 : ∀ l : Nat, l ≤ 15 → M c4 l = cnt ls n l)
    (k : ∀ (r : Int) (M2 : FM), (r = 1 ∧ okL ls n z ∨ r = 0 ∧ ¬ okL ls n z) → cdV M2 c3 c4 ls n → (∀ c : Nat, c ≠ c3 → c ≠ c4 → c ≠ c5 → M2 c = M c) → K (some (ti r)) (sh, M2, nx, zl)) : ∀ (N m : Nat) (M2 : FM), m + N = 15 → (∀ l : Nat, l < m → M2 c5 (l + 1) = offL ls n l) → (∀ c : Nat, c ≠ c5 → M2 c = M c) → fm_X d kd16 63 [some (gr cc), some (gr fr), some (ti at0), some (ti n), some (ti z), some (ti (offL ls n m)), some (ti (sumL ls n m)), some (ti (m + 1)), none] [] (sh, M2, nx, zl) K := by
  have hcd0 := hcd
  obtain ⟨⟨c0, c1, c2, hcc⟩, ⟨h3s, h4s, h5s⟩, ⟨l3, l4, l5⟩, ⟨n34, n35, n45⟩, hnR, -⟩ := hcd
  intro N
  induction N with
  | zero =>
    intro m M2 a1 a2 a3
    have em : m = 15 := by omega
    subst em
    refine s16_63 d K _ _ _ ?_
    refine ⟨by omega, fun w => ?_, fun w => by omega⟩
    refine tk118 (M := M2) hcd0 hn hfr hne ha hnF (fun s hs => by rw [a3 fr hne.2.2]; exact hls s hs) hz (fun l hl => by rw [a3 c4 n45]; exact h4 l hl) (fun r M3 x1 x2 x3 => k r M3 x1 x2 (fun c q1 q2 q3 => (x3 c q1 q2 q3).trans (a3 c q3))) (n + 1) 0 M2 none (by omega) (by omega) (fun l hl => ?_) (fun l t _ ht => by omega) (fun _ _ _ => rfl)
    rw [a2 l (by omega)]
    show _ = offL ls n l + 0
    omega
  | succ N ih =>
    intro m M2 a1 a2 a3
    have e4 : M2 c4 (m + 1) = cnt ls n (m + 1 : Nat) := by
      rw [a3 c4 n45]
      exact h4 (m + 1) (by omega)
    refine s16_63 d K _ _ _ ?_
    refine ⟨by omega, fun w => by omega, fun w => ?_⟩
    refine ⟨_, hcc, ?_⟩
    refine ⟨17, h5s, by omega, ?_⟩
    refine ⟨_, hcc, ?_⟩
    refine ⟨16, h4s, by omega, ?_⟩
    refine ⟨_, hcc, ?_⟩
    refine ⟨16, h4s, by omega, ?_⟩
    refine ⟨by omega, ?_⟩
    obtain ⟨R, gR⟩ : ∃ R : FM, R = um M2 c5 (ur (M2 c5) (m + 1) (offL ls n m)) := ⟨_, rfl⟩
    have R4 : R c4 (m + 1) = cnt ls n (m + 1 : Nat) := by rw [gR, um_ne n45]; exact e4
    have zz := ih (m + 1) R (by omega) (fun l hl => ?_) (fun c hc => by rw [gR, um_ne hc]; exact a3 c hc)
    · have e1 : offL ls n (m + 1) = offL ls n m + R c4 (m + 1) := by rw [R4]; rfl
      have e2 : sumL ls n (m + 1) = sumL ls n m + R c4 (m + 1) * 2 ^ ((15 : Int) - (m + 1)).toNat := by
        rw [R4, show ((15 : Int) - (m + 1)).toNat = 15 - (m + 1) by omega]
        rfl
      have e3 : ((m + 1 : Nat) : Int) + 1 = (m : Int) + 1 + 1 := by omega
      rw [e1, e2, e3, gR] at zz
      exact zz
    · rw [gR, um_at]
      by_cases e : l = m
      · rw [e, ur_at]
      · rw [ur_ne (by omega)]
        exact a2 l (by omega)
theorem take_Y (hcd : cdS sh cc c3 c4 c5 nR) (hn : n ≤ nR) (hfr : shp sh fr = some (.inl (.int, nF))) (hne : fr ≠ c3 ∧ fr ≠ c4 ∧ fr ≠ c5) (ha : 0 ≤ at0 ∧ at0 + n ≤ nF) (hnF : nF ≤ 400) (hls : ∀ s : Nat, s < n → M fr (at0 + s) = ls s ∧ 0 ≤ ls s ∧ ls s ≤ 15) (hz : z = 0 ∨ z = 1)
    (k : ∀ (r : Int) (M2 : FM), (r = 1 ∧ okL ls n z ∨ r = 0 ∧ ¬ okL ls n z) → cdV M2 c3 c4 ls n → (∀ c : Nat, c ≠ c3 → c ≠ c4 → c ≠ c5 → M2 c = M c) → K (some (ti r)) (sh, M2, nx, zl)) : fm_Y (d + 1) 16 [.ref cc, .ref fr, .int (Int32.ofInt at0), .int (Int32.ofInt n), .int (Int32.ofInt z)] (sh, M, nx, zl) K := by
  have hcd0 := hcd
  obtain ⟨⟨c0, c1, c2, hcc⟩, ⟨h3s, h4s, h5s⟩, ⟨l3, l4, l5⟩, ⟨n34, n35, n45⟩, hnR, -⟩ := hcd
  refine m16 [gr cc, gr fr, ti at0, ti n, ti z] ?_
  have L27 : ∀ (N s : Nat) (M2 : FM), n - s < N → s ≤ n → (∀ l : Nat, l ≤ 15 → M2 c4 l = cnt ls s l) → (∀ c : Nat, c ≠ c4 → M2 c = M c) → fm_X d kd16 27 [some (gr cc), some (gr fr), some (ti at0), some (ti n), some (ti z), some (ti s), none, none, none] [] (sh, M2, nx, zl) K := by
    intro N
    induction N with
    | zero => intro s M2 a1; omega
    | succ N ih =>
      intro s M2 a1 a2 a3 a4
      refine s16_27 d K _ _ _ ?_
      refine ⟨by omega, fun w => ?_, fun w => ?_⟩
      · have es : s = n := by omega
        rw [es] at a3
        have zz := tk63 (d := d) (nx := nx) (zl := zl) (K := K) (M := M2) hcd0 hn hfr hne ha hnF (fun s hs => by rw [a4 fr hne.2.1]; exact hls s hs) hz a3 (fun r M3 x1 x2 x3 => k r M3 x1 x2 (fun c q1 q2 q3 => (x3 c q1 q2 q3).trans (a4 c q2))) 15 0 M2 rfl (fun l hl => by omega) (fun _ _ => rfl)
        exact zz
      · have hs : s < n := by omega
        obtain ⟨b1, b2, b3⟩ := hls s hs
        have ev : M2 fr (at0 + s) = ls s := by rw [a4 fr hne.2.1]; exact b1
        refine ⟨_, hcc, ?_⟩
        refine ⟨nF, hfr, by omega, ?_⟩
        refine ⟨16, h4s, by omega, ?_⟩
        refine ⟨16, h4s, by omega, ?_⟩
        have zz := ih (s + 1) (um M2 c4 (ur (M2 c4) (M2 fr (at0 + s)) (M2 c4 (M2 fr (at0 + s)) + 1))) (by omega) (by omega) (fun l hl => ?_) (fun c hc => by rw [um_ne hc]; exact a4 c hc)
        · exact zz
        · rw [um_at, ev]
          show _ = cnt ls s l + (if ls s = l then 1 else 0)
          by_cases e : (l : Int) = ls s
          · rw [e, ur_at, if_pos rfl]
            have := a3 l hl
            rw [e] at this
            omega
          · rw [ur_ne e, if_neg (fun q => e q.symm), a3 l hl]
            omega
  have L3 : ∀ (N m : Nat) (M2 : FM), m + N = 16 → (∀ l : Nat, l < m → M2 c4 l = 0) → (∀ c : Nat, c ≠ c4 → M2 c = M c) → fm_X d kd16 3 [some (gr cc), some (gr fr), some (ti at0), some (ti n), some (ti z), some (ti m), none, none, none] [] (sh, M2, nx, zl) K := by
    intro N
    induction N with
    | zero =>
      intro m M2 a1 a2 a3
      refine s16_3 d K _ _ _ ?_
      refine ⟨by omega, fun w => ?_, fun w => by omega⟩
      exact L27 (n + 1) 0 M2 (by omega) (by omega) (fun l hl => a2 l (by omega)) a3
    | succ N ih =>
      intro m M2 a1 a2 a3
      refine s16_3 d K _ _ _ ?_
      refine ⟨by omega, fun w => by omega, fun w => ?_⟩
      refine ⟨_, hcc, ?_⟩
      refine ⟨16, h4s, by omega, ?_⟩
      have zz := ih (m + 1) (um M2 c4 (ur (M2 c4) m 0)) (by omega) (fun l hl => ?_) (fun c hc => by rw [um_ne hc]; exact a3 c hc)
      · exact zz
      · rw [um_at]
        by_cases e : l = m
        · rw [e, ur_at]
        · rw [ur_ne (by omega)]
          exact a2 l (by omega)
  exact L3 16 0 M rfl (fun l hl => by omega) (fun _ _ => rfl)
end UTAKE
