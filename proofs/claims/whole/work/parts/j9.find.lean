/-! QUERIES: find -/
def chS (lg : Int → Int) (nm : List Int) : List (Int × Int) → Int
  | [] => -2
  | q :: r => if nmS lg q.2 = nm then chd lg q.1 q.2 else chS lg nm r
def stp (P lg pa : Int → Int) (Ef : Int → List (Int × Int)) (r at' fr to : Int) : Int := if (to = fr + 2 ∧ P fr % 256 = 46) ∧ P (fr + 1) % 256 = 46 then (if at' = r then r else pa at') else chS lg (sl P fr (to - fr).toNat) (Ef at')
/-- a path followed, byte for byte -/
def flS (P lg pa kd : Int → Int) (Ef : Int → List (Int × Int)) (r m : Int) : Nat → Int → Int → Int → Int
  | 0, x, _, _ => x
  | g + 1, x, fr, i => if m < i then x else if i < m ∧ P i % 256 ≠ 47 then flS P lg pa kd Ef r m g x fr (i + 1) else if fr < i then (if kd x = 1 then (if stp P lg pa Ef r x fr i < 0 then -2 else flS P lg pa kd Ef r m g (stp P lg pa Ef r x fr i) (i + 1) (i + 1)) else -4) else flS P lg pa kd Ef r m g x (i + 1) (i + 1)
theorem fl_end {P lg pa kd : Int → Int} {Ef : Int → List (Int × Int)} {r m : Int} : ∀ (g : Nat) (x fr : Int), m ≤ fr → flS P lg pa kd Ef r m g x fr fr = x
  | 0, _, _, _ => rfl
  | g + 1, x, fr, h => by
    have e : flS P lg pa kd Ef r m (g + 1) x fr fr = if m < fr then x else if fr < m ∧ P fr % 256 ≠ 47 then flS P lg pa kd Ef r m g x fr (fr + 1) else if fr < fr then (if kd x = 1 then (if stp P lg pa Ef r x fr fr < 0 then -2 else flS P lg pa kd Ef r m g (stp P lg pa Ef r x fr fr) (fr + 1) (fr + 1)) else -4) else flS P lg pa kd Ef r m g x (fr + 1) (fr + 1) := rfl
    rw [e]
    by_cases c : m < fr
    · rw [if_pos c]
    · rw [if_neg c, if_neg (by omega), if_neg (by omega)]
      exact fl_end g x (fr + 1) (by omega)
theorem chS_r {lg : Int → Int} {nm : List Int} {n : Int} : ∀ (E : List (Int × Int)), (∀ q : Int × Int, q ∈ E → 1 ≤ chd lg q.1 q.2 ∧ chd lg q.1 q.2 ≤ n) → chS lg nm E = -2 ∨ (1 ≤ chS lg nm E ∧ chS lg nm E ≤ n)
  | [], _ => Or.inl rfl
  | q :: r, h => by
    show (if nmS lg q.2 = nm then chd lg q.1 q.2 else chS lg nm r) = -2 ∨ (1 ≤ (if nmS lg q.2 = nm then chd lg q.1 q.2 else chS lg nm r) ∧ (if nmS lg q.2 = nm then chd lg q.1 q.2 else chS lg nm r) ≤ n)
    split
    · exact Or.inr (h q List.mem_cons_self)
    · exact chS_r r (fun x hx => h x (List.mem_cons_of_mem _ hx))
section FIND
variable {d nx zl : Nat} {K : Option TV → FH → Prop} {sh : Nat → Option Shp} {M : FM} {IR IS LR LS : List Int} {B ids F n r : Int} {pl h : Int → Int}
theorem childOf_Y {j fr m : Int} (hL : ltC M IR IS LR LS B ids F n pl h) (hj : 1 ≤ j ∧ j ≤ n) (hk : kdT (le (lf IR) (pl j) 2) = 1) (hA : liX IR IS LR LS h (pl j)) (hfr : 0 ≤ fr ∧ 0 ≤ m ∧ fr + m ≤ 16384) (k : ∀ M2 : FM, (∀ c : Nat, c ≠ 100 → M2 c = M c) → K (some (ti (chS (lf LR) (sl (M 5) fr m.toNat) (lsE IR IS LR LS h (pl j))))) (sh, M2, nx, zl)) : fm_Y (d + 5) 227 [.ref 97, .int (Int32.ofInt j), .ref 4, .int (Int32.ofInt fr), .int (Int32.ofInt m)] (sh, M, nx, zl) K := by
  have lr := hL.2.2.2.2.2
  have hs := hL.2.2.2.1.2.2.2.1
  obtain ⟨E, b, e, li⟩ := hA
  have eE := lsE_eq hs li
  rw [eE] at k
  have er := opP_r hs li.1
  have wl := wk_len _ _ _ _ li.2.1.1
  refine m227 [fx 97, ti j, fx 4, ti fr, ti m] ?_
  refine open_Y hL hj hk (fun M2 o2 no => absurd li.1 (no b e)) (fun M2 b2 e2 o2 hop hv => ?_)
  obtain ⟨x1, x2⟩ := opP_one hs li.1 hop
  rw [x1, x2] at hv
  obtain ⟨v3, v4, v5, v7⟩ := hv
  refine ⟨by omega, fun _ => ?_, fun q => by omega⟩
  have L : ∀ (E2 : List (Int × Int)) (i a l hd : Int) (M1 : FM), i + E2.length = E.length → 0 ≤ i → (∀ c : Nat, c ≠ 100 → M1 c = M c) → (M1 100 4 = a ∧ M1 100 5 = e ∧ M1 100 7 = l) → (l ≠ 0 → hdC M1 IS (lf LR) hd) → (0 ≤ a ∧ a ≤ e) → (0 ≤ l ∧ l ≤ 256) → wkL IS (lf LR) e a l hd E2 → chS (lf LR) (sl (M 5) fr m.toNat) E = chS (lf LR) (sl (M 5) fr m.toNat) E2 → fm_X (d + 4) kd227 17 [some (fx 97), some (ti j), some (fx 4), some (ti fr), some (ti m), some (ti i)] [] (sh, M1, nx, zl) K := by
    intro E2
    induction E2 with
    | nil =>
      intro i a l hd M1 q1 q2 F1 hm hh ha hl hE hc
      have hL1 := ltC_to hL (M2 := M1) (fun c hc => F1 c (by omega))
      have e2 : chS (lf LR) (sl (M 5) fr m.toNat) [] = -2 := rfl
      rw [hc, e2] at k
      have ee := hE.1
      have el := hE.2
      refine s227_17 (d + 4) K _ _ _ ?_
      refine ⟨by omega, fun q => by omega, fun _ => ?_⟩
      refine next_Y (hd := hd) hL1 hm.1 hm.2.1 hm.2.2 hh (by omega) (by omega) hl (fun M3 no o3 s3 fin r3 => ?_) (fun M3 hd3 a3 l3 m1 m2 o3 s3 t3 hc3 => absurd ⟨ee, el⟩ (nxH_go m1))
      exact ⟨by omega, fun _ => k M3 (fun c hc => (o3 c hc).trans (F1 c hc)), fun q => absurd rfl q⟩
    | cons q E2 ih =>
      intro i a l hd M1 q1 q2 F1 hm hh ha hl hE hc
      have hL1 := ltC_to hL (M2 := M1) (fun c hc => F1 c (by omega))
      obtain ⟨hd2, a2⟩ := q
      obtain ⟨l2, n1, n2, n3⟩ := hE
      dsimp only at n1 n2 n3
      have l6 := le_nn (lf LR) 2 (a2 + 6)
      have E1 := n2.1
      have na := nxH_r n1
      have hl2 : 1 ≤ l2 ∧ l2 ≤ 256 := by
        rcases n1 with z | z
        · omega
        · have z2 := z.2.1.2.1
          have z3 := le_nn (lf LR) 4 a
          omega
      simp only [List.length_cons] at q1
      refine s227_17 (d + 4) K _ _ _ ?_
      refine ⟨by omega, fun q => by omega, fun _ => ?_⟩
      refine next_Y (hd := hd) hL1 hm.1 hm.2.1 hm.2.2 hh (by omega) (by omega) hl (fun M3 no o3 s3 fin r3 => absurd n2 (no hd2 a2 l2 n1)) (fun M3 hd3 a3 l3 m1 m2 o3 s3 t3 hc3 => ?_)
      obtain ⟨u1, u2, u3⟩ := nxH_one m1 n1
      rw [u2, u3] at s3
      rw [u2] at t3
      rw [u1] at hc3
      obtain ⟨t10, t11, t12⟩ := t3
      have F13 : ∀ c : Nat, c ≠ 100 → M3 c = M c := fun c hc => (o3 c hc).trans (F1 c hc)
      have hL3 := ltC_to hL (M2 := M3) (fun c hc => F13 c (by omega))
      refine ⟨by omega, fun q => by omega, fun _ => ?_⟩
      refine m195 [fx 100, fx 5, ti fr, ti m] ?_
      refine order_I (pr109 sh).1.2.1.1.2 (b := 5) (nb := 16384) rfl (by omega) (by omega) (by omega) (by omega) (by omega) (by omega) (by omega) (by omega) ?_
      have s1 : sl (M3 112) (M3 100 10) (M3 100 11).toNat = nmS (lf LR) a2 := by
        rw [t10, t11]
        exact sl_agr hL3.2.2.2.2.1 (by omega) (by omega)
      have s5 : M3 5 = M 5 := F13 5 (by omega)
      have orr := ordL_sl (M3 112) (M3 5) (M3 100 10) fr (M3 100 11).toNat m.toNat
      have oe := ordL_eq (sl (M3 112) (M3 100 10) (M3 100 11).toNat) (sl (M3 5) fr m.toNat)
      rw [s1, s5] at oe
      rw [s1, s5] at orr ⊢
      have cc : chS (lf LR) (sl (M 5) fr m.toNat) ((hd2, a2) :: E2) = if nmS (lf LR) a2 = sl (M 5) fr m.toNat then chd (lf LR) hd2 a2 else chS (lf LR) (sl (M 5) fr m.toNat) E2 := rfl
      rw [cc] at hc
      refine ⟨by omega, fun w2 => ⟨Or.inl rfl, ⟨by omega, fun _ => ?_, fun z => absurd rfl z⟩⟩, fun w2 => ⟨Or.inr rfl, ⟨by omega, fun z => by omega, fun _ => ?_⟩⟩⟩
      · rw [if_neg (fun z => w2 (oe.2 z))] at hc
        exact ih (i + 1) (a2 + 9 + le (lf LR) (a2 + 6) 2) (l2 - 1) hd2 M3 (by omega) (by omega) F13 ⟨s3.2.1, s3.2.2.1, s3.2.2.2⟩ (fun _ => hc3) (by omega) (by omega) n3 hc
      · rw [if_pos (oe.1 w2)] at hc
        rw [hc] at k
        exact child_Y hL3 hc3 t12 (by omega) n2 (by omega) (fun _ => k M3 F13)
  exact L E 0 b 0 0 M2 (by omega) (by omega) o2 ⟨v4, v5, v7⟩ (fun q => absurd rfl q) (by omega) (by omega) li.2.1.1 rfl
theorem follow_Y {j m : Int} {P : Int → Int} (hL : ltC M IR IS LR LS B ids F n pl h) (e17 : M 97 17 = r) (hr : 1 ≤ r ∧ r ≤ n) (hj : 1 ≤ j ∧ j ≤ n) (hA : lsA IR IS LR LS h pl n) (hm : M 4 1 = m) (hm2 : 0 ≤ m ∧ m ≤ 16384) (hP : agr (M 5) P m) (hpa : ∀ x : Int, 1 ≤ x → x ≤ n → kdF IR pl x = 1 → x ≠ r → 1 ≤ paF (lf IR) pl x ∧ paF (lf IR) pl x ≤ n)
    (k : ∀ M2 : FM, (∀ c : Nat, c ≠ 100 → M2 c = M c) → K (some (ti (if kdF IR pl j = 1 then flS P (lf LR) (paF (lf IR) pl) (kdF IR pl) (lsF IR IS LR LS h pl) r m (m + 2).toNat j 0 0 else -4))) (sh, M2, nx, zl)) : fm_Y (d + 6) 226 [.ref 97, .int (Int32.ofInt j), .ref 4] (sh, M, nx, zl) K := by
  have nr := hL.1.2.1
  have hs := hL.2.2.2.1.2.2.2.1
  have kr : ∀ x : Int, 1 ≤ x → x ≤ n → 1 ≤ kdT (le (lf IR) (pl x) 2) ∧ kdT (le (lf IR) (pl x) 2) ≤ 7 := by
    intro x x0 x1
    obtain ⟨-, hd0⟩ := nd_ok hL.1.1.2.1.2.1 hL.2.1 x0 x1
    have := hd0.2.1
    unfold kdT
    split <;> omega
  have ek : ∀ x : Int, kdF IR pl x = kdT (le (lf IR) (pl x) 2) := fun x => rfl
  have chr : ∀ x : Int, 1 ≤ x → x ≤ n → kdF IR pl x = 1 → ∀ q : Int × Int, q ∈ lsF IR IS LR LS h pl x → 1 ≤ chd (lf LR) q.1 q.2 ∧ chd (lf LR) q.1 q.2 ≤ n := by
    intro x x0 x1 xk q hq
    obtain ⟨E, b, e, li⟩ := hA x x0 x1 xk
    have eE : lsF IR IS LR LS h pl x = E := lsE_eq hs li
    rw [eE] at hq
    obtain ⟨y, -, y2, -⟩ := li.2.1.2 q hq
    have := (hL.2.1.2 y y2.1).2.1
    omega
  refine m226 [fx 97, ti j, fx 4] ?_
  refine kindOf_Y hL hj ?_
  have krj := kr j hj.1 hj.2
  refine ⟨by omega, fun w => ?_, fun w => ?_⟩
  rotate_left
  · rw [if_neg (show kdF IR pl j ≠ 1 from w)] at k
    exact k M (fun _ _ => rfl)
  rw [if_pos (show kdF IR pl j = 1 from w)] at k
  obtain ⟨V, gV⟩ : ∃ V : Int, V = flS P (lf LR) (paF (lf IR) pl) (kdF IR pl) (lsF IR IS LR LS h pl) r m (m + 2).toNat j 0 0 := ⟨_, rfl⟩
  rw [← gV] at k
  have L : ∀ (g : Nat) (x fr i : Int) (M1 : FM), (g : Int) = m + 2 - i → (0 ≤ fr ∧ fr ≤ i ∧ i ≤ m + 1) → (1 ≤ x ∧ x ≤ n) → (∀ c : Nat, c ≠ 100 → M1 c = M c) → V = flS P (lf LR) (paF (lf IR) pl) (kdF IR pl) (lsF IR IS LR LS h pl) r m g x fr i → fm_X (d + 5) kd226 23 [some (fx 97), some (ti j), some (fx 4), some (ti x), some (ti fr), some (ti i)] [] (sh, M1, nx, zl) K := by
    intro g
    induction g with
    | zero => intro x fr i M1 q1; omega
    | succ g ih =>
      intro x fr i M1 q1 q2 q3 F1 hV
      have e : flS P (lf LR) (paF (lf IR) pl) (kdF IR pl) (lsF IR IS LR LS h pl) r m (g + 1) x fr i = if m < i then x else if i < m ∧ P i % 256 ≠ 47 then flS P (lf LR) (paF (lf IR) pl) (kdF IR pl) (lsF IR IS LR LS h pl) r m g x fr (i + 1) else if fr < i then (if kdF IR pl x = 1 then (if stp P (lf LR) (paF (lf IR) pl) (lsF IR IS LR LS h pl) r x fr i < 0 then -2 else flS P (lf LR) (paF (lf IR) pl) (kdF IR pl) (lsF IR IS LR LS h pl) r m g (stp P (lf LR) (paF (lf IR) pl) (lsF IR IS LR LS h pl) r x fr i) (i + 1) (i + 1)) else -4) else flS P (lf LR) (paF (lf IR) pl) (kdF IR pl) (lsF IR IS LR LS h pl) r m g x (i + 1) (i + 1) := rfl
      rw [e] at hV
      have e41 : M1 4 1 = m := by rw [F1 4 (by omega)]; exact hm
      have e5 : M1 5 = M 5 := F1 5 (by omega)
      have hL1 := ltC_to hL (M2 := M1) (fun c hc => F1 c (by omega))
      refine s226_23 (d + 5) K _ _ _ ?_
      refine ⟨by omega, fun w1 => ?_, fun w1 => ?_⟩
      · rw [if_pos (by omega)] at hV
        have T := k M1 F1
        rw [hV] at T
        exact T
      rw [if_neg (by omega)] at hV
      -- at a slash or the end
      have B56 : ¬ (i < m ∧ P i % 256 ≠ 47) → b226_56 (d + 5) (fW (d + 5) kd226 K) K [some (fx 97), some (ti j), some (fx 4), some (ti x), some (ti fr), some (ti i)] [] (sh, M1, nx, zl) := by
        intro ns
        rw [if_neg ns] at hV
        refine ⟨by omega, fun w2 => ?_, fun w2 => ?_⟩
        · rw [if_neg (by omega)] at hV
          refine ⟨by omega, fun _ => ?_, fun q => by omega⟩
          exact ih x (i + 1) (i + 1) M1 (by omega) (by omega) q3 F1 hV
        rw [if_pos (by omega)] at hV
        refine kindOf_Y hL1 q3 ?_
        have krx := kr x q3.1 q3.2
        refine ⟨by omega, fun w3 => ?_, fun w3 => ?_⟩
        rotate_left
        · rw [if_neg (show kdF IR pl x ≠ 1 from w3)] at hV
          have T := k M1 F1
          rw [hV] at T
          exact T
        have w3' : kdF IR pl x = 1 := w3
        rw [if_pos w3'] at hV
        have hst : stp P (lf LR) (paF (lf IR) pl) (lsF IR IS LR LS h pl) r x fr i = if (i = fr + 2 ∧ P fr % 256 = 46) ∧ P (fr + 1) % 256 = 46 then (if x = r then r else paF (lf IR) pl x) else chS (lf LR) (sl P fr (i - fr).toNat) (lsF IR IS LR LS h pl x) := rfl
        have fin : ∀ (M3 : FM) (y : Int), (∀ c : Nat, c ≠ 100 → M3 c = M c) → y = stp P (lf LR) (paF (lf IR) pl) (lsF IR IS LR LS h pl) r x fr i → (y = -2 ∨ 1 ≤ y ∧ y ≤ n) → b226_116 (d + 5) (fW (d + 5) kd226 K) K [some (fx 97), some (ti j), some (fx 4), some (ti x), some (ti fr), some (ti i)] [ti y] (sh, M3, nx, zl) := by
          intro M3 y F3 ey ry
          rw [← ey] at hV
          refine ⟨by omega, fun w4 => ?_, fun w4 => ?_⟩
          · rw [if_neg (by omega)] at hV
            exact ih y (i + 1) (i + 1) M3 (by omega) (by omega) (by omega) F3 hV
          · rw [if_pos (by omega)] at hV
            have T := k M3 F3
            rw [hV, show (-2 : Int) = y by omega] at T
            exact T
        have NP : ∀ (z : Int), z = 0 → ¬ ((i = fr + 2 ∧ P fr % 256 = 46) ∧ P (fr + 1) % 256 = 46) → (o_if .eq (o_al 0 (o_il 3 (o_al 2 (o_il 4 (o_il 5 (o_il 4 (o_isub (o_callv (d + 5) 227 4 8 (b226_116 (d + 5) (fW (d + 5) kd226 K) K))))))))) (o_al 0 (o_il 3 (o_callv (d + 5) 212 1 8 (b226_116 (d + 5) (fW (d + 5) kd226 K) K)))) : FC) [some (fx 97), some (ti j), some (fx 4), some (ti x), some (ti fr), some (ti i)] [ti z] (sh, M1, nx, zl) := by
          intro z z0 np
          rw [if_neg np] at hst
          rw [z0]
          refine ⟨by omega, fun _ => ?_, fun q => absurd rfl q⟩
          refine childOf_Y hL1 q3 w3 (hA x q3.1 q3.2 w3') (by omega) (fun M3 F3 => ?_)
          have F13 : ∀ c : Nat, c ≠ 100 → M3 c = M c := fun c hc => (F3 c hc).trans (F1 c hc)
          have es : sl (M1 5) fr (i - fr).toNat = sl P fr (i - fr).toNat := by
            rw [e5]
            exact sl_agr hP (by omega) (by omega)
          rw [es]
          refine fin M3 _ F13 ?_ ?_
          · rw [hst]
            rfl
          · exact chS_r _ (chr x q3.1 q3.2 w3')
        refine m30 [fx 5, ti fr, ti (i - fr)] ?_
        refine ⟨by omega, fun w4 => ⟨Or.inl rfl, NP 0 rfl (by omega)⟩, fun w4 => ?_⟩
        have h1 := hP fr (by omega) (by omega)
        have h2 := hP (fr + 1) (by omega) (by omega)
        refine ⟨by omega, ?_⟩
        rw [e5]
        refine ⟨by omega, fun w5 => ⟨Or.inl rfl, NP 0 rfl (by omega)⟩, fun w5 => ?_⟩
        refine ⟨by omega, ?_⟩
        rw [e5]
        refine ⟨by omega, fun w6 => ⟨Or.inl rfl, NP 0 rfl (by omega)⟩, fun w6 => ⟨Or.inr rfl, ?_⟩⟩
        rw [if_pos (by omega)] at hst
        refine ⟨by omega, fun q => by omega, fun _ => ?_⟩
        have e117 : M1 97 17 = r := by rw [F1 97 (by omega)]; exact e17
        refine parentC_Y hL1 e117 (by omega) q3 w3 ?_
        refine fin M1 _ F1 hst.symm ?_
        by_cases c : x = r
        · rw [if_pos c]
          omega
        · rw [if_neg c]
          exact Or.inr (hpa x q3.1 q3.2 w3' c)
      refine ⟨by omega, fun w2 => B56 (by omega), fun w2 => ?_⟩
      have h1 := hP i (by omega) (by omega)
      refine ⟨by omega, ?_⟩
      rw [e5]
      refine ⟨by omega, fun w3 => B56 (by omega), fun w3 => ?_⟩
      rw [if_pos (by omega)] at hV
      exact ih x fr (i + 1) M1 (by omega) (by omega) q3 F1 hV
  exact L (m + 2).toNat j 0 0 M (by omega) (by omega) hj (fun _ _ => rfl) gV
end FIND
