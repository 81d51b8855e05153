/-! MOUNTING: listings; the reference's walk -/
def okW (IR IS : List Int) (lg h : Int → Int) (e a l hd : Int) (nm : List Int) (E : List (Int × Int)) : Prop := (wkL IS lg e a l hd E ∧ ∀ q ∈ E, enP IR IS lg h q.1 q.2) ∧ soL lg nm E
theorem ok_inv {IR IS : List Int} {lg h : Int → Int} {e a l hd : Int} {nm : List Int} {E : List (Int × Int)} (ne : ¬ (a = e ∧ l = 0)) (hE : okW IR IS lg h e a l hd nm E) : ∃ (x y z : Int) (r : List (Int × Int)), E = (x, y) :: r ∧ nxH IS lg e a l hd x y z ∧ nxE lg e y ∧ enP IR IS lg h x y ∧ ordL nm (nmS lg y) < 0 ∧ okW IR IS lg h e (y + 9 + le lg (y + 6) 2) (z - 1) x (nmS lg y) r := by
  obtain ⟨⟨w, en⟩, so⟩ := hE
  cases E with
  | nil => exact absurd w ne
  | cons q r =>
    obtain ⟨z, n1, n2, n3⟩ := w
    obtain ⟨x, y⟩ := q
    exact ⟨x, y, z, r, rfl, n1, n2, en (x, y) List.mem_cons_self, so.1, ⟨n3, fun q hq => en q (List.mem_cons_of_mem _ hq)⟩, so.2⟩
theorem ok_cons {IR IS : List Int} {lg h : Int → Int} {e a l hd x y z : Int} {nm : List Int} {r : List (Int × Int)} (h1 : nxH IS lg e a l hd x y z) (h2 : nxE lg e y) (en : enP IR IS lg h x y) (so : ordL nm (nmS lg y) < 0) (c : okW IR IS lg h e (y + 9 + le lg (y + 6) 2) (z - 1) x (nmS lg y) r) : okW IR IS lg h e a l hd nm ((x, y) :: r) := by
  refine ⟨⟨⟨z, h1, h2, c.1.1⟩, fun q hq => ?_⟩, so, c.2⟩
  rcases List.mem_cons.1 hq with e | e
  · rw [e]
    exact en
  · exact c.1.2 q e
theorem nxH_r {IS : List Int} {lg : Int → Int} {e a l hd x y z : Int} (h1 : nxH IS lg e a l hd x y z) : a ≤ y := by
  rcases h1 with q | q
  · omega
  · have := q.2.2.2.1
    omega
section MLISTING
variable {d nx zl : Nat} {K : Option TV → FH → Prop} {sh : Nat → Option Shp} {M : FM} {IR IS LR LS : List Int} {B ids F n : Int} {pl h : Int → Int}
theorem isListing_Y {j : Int} (hL : mlC M IR IS LR LS B ids F n pl h) (hj : 1 ≤ j ∧ j ≤ n) (hk : kdT (le (lf IR) (pl j) 2) = 1)
    (k : ∀ (M2 : FM) (z : Int), moF M M2 → (z = 1 ∧ liX IR IS LR LS h (pl j) ∨ z = 0 ∧ ¬ liX IR IS LR LS h (pl j)) → K (some (ti z)) (sh, M2, nx, zl)) : fm_Y (d + 8) 356 [.ref 168, .int (Int32.ofInt j)] (sh, M, nx, zl) K := by
  have lr := hL.2.2.2.2.2.1.2
  have hs := hL.2.2.2.2.2.2.1
  refine m356 [fx 168, ti j] ?_
  refine openListing_Y hL hj hk (fun M2 F2 no => ?_) (fun M2 b e F2 hop hv => ?_)
  · refine ⟨by omega, fun z => absurd rfl z, fun _ => ⟨Or.inl rfl, k M2 0 F2 (Or.inr ⟨rfl, fun q => ?_⟩)⟩⟩
    obtain ⟨E, b, e, q1, -⟩ := q
    exact no b e q1
  have hr := opP_r hs hop
  obtain ⟨v11, v12, v16, v17⟩ := hv
  have NO : ∀ M1 : FM, moF M M1 → (∀ E : List (Int × Int), ¬ okW IR IS (lf LR) h e b 0 0 [] E) → K (some (ti 0)) (sh, M1, nx, zl) := by
    intro M1 F1 no
    refine k M1 0 F1 (Or.inr ⟨rfl, fun q => ?_⟩)
    obtain ⟨E, b2, e2, q1, q2, q3, -⟩ := q
    obtain ⟨r1, r2⟩ := opP_one hs hop q1
    rw [r1, r2] at q2
    exact no E ⟨q2, q3⟩
  have ixnn : 0 ≤ ixN (lf IR) (pl j) := by
    have a1 := le_nn (lf IR) 2 (pl j + 32)
    unfold ixN
    split <;> omega
  have L : ∀ (G : Nat) (a l hd la ls : Int) (pre : List (Int × Int)) (M1 : FM), (e - a).toNat < G → moF M M1 → (M1 168 112 = e ∧ M1 168 116 = a ∧ M1 168 117 = l) → (l ≠ 0 → M1 168 118 = hd ∧ 0 ≤ hd ∧ hd + 12 ≤ e) → (0 ≤ a ∧ a ≤ e) → (0 ≤ l ∧ l ≤ 256) → (0 ≤ la ∧ 0 ≤ ls ∧ la + ls ≤ LR.length) → (∀ E : List (Int × Int), okW IR IS (lf LR) h e b 0 0 [] E ↔ ∃ E2 : List (Int × Int), E = pre ++ E2 ∧ okW IR IS (lf LR) h e a l hd (sl (lf LR) la ls.toNat) E2) → fm_X (d + 7) kd356 14 [some (fx 168), some (ti j), some (ti la), some (ti ls)] [] (sh, M1, nx, zl) K := by
    intro G
    induction G with
    | zero => intro a l hd la ls pre M1 q; omega
    | succ G ih =>
      intro a l hd la ls pre M1 hG F1 hm h18 ha hl hla hI
      obtain ⟨m12, m16, m17⟩ := hm
      have hL1 := mlC_to hL F1
      have B106 : ∀ (M3 : FM) (hd2 a2 l2 : Int), moF M M3 → (M3 168 112 = e ∧ M3 168 116 = a2 ∧ M3 168 117 = l2) → M3 168 118 = hd2 → (0 ≤ hd2 ∧ hd2 + 12 ≤ e) → (a ≤ a2 ∧ a2 ≤ e) → (1 ≤ l2 ∧ l2 ≤ 256) → a < e → (∀ x y z : Int, nxH IS (lf LR) e a l hd x y z → x = hd2 ∧ y = a2 ∧ z = l2) → (enP IR IS (lf LR) h hd2 a2 → nxH IS (lf LR) e a l hd hd2 a2 l2) → b356_106 (d + 7) (fW (d + 7) kd356 K) K [some (fx 168), some (ti j), some (ti la), some (ti ls)] [] (sh, M3, nx, zl) := by
        intro M3 hd2 a2 l2 F3 t t18 hh ha2 hl2 hlt hx1 hx2
        obtain ⟨t12, t16, t17⟩ := t
        have hL3 := mlC_to hL F3
        have l6 := le_nn (lf LR) 2 (a2 + 6)
        refine isEntry_Y hL3 t12 t16 t18 (by omega) (by omega) hh hla (fun z hz => ?_)
        rcases hz.symm with ⟨z1, z2⟩ | ⟨z1, z2, z3, z4⟩
        · rw [z1]
          refine ⟨by omega, fun q => absurd rfl q, fun _ => ⟨Or.inl rfl, NO M3 F3 (fun E hE => ?_)⟩⟩
          obtain ⟨E2, -, hE2⟩ := (hI E).1 hE
          obtain ⟨x, y, zz, r, -, y1, y2, y3, y4, -⟩ := ok_inv (by omega) hE2
          obtain ⟨w1, w2, w3⟩ := hx1 x y zz y1
          rw [w2] at y2 y4
          rw [w1, w2] at y3
          exact z2 ⟨y2, y3, y4⟩
        rw [z1]
        have nh := hx2 z3
        have E1 := z2.1
        refine ⟨by omega, fun _ => ?_, fun q => by omega⟩
        refine w2_Y (a2 + 6) hL3 (by omega) (by omega) (fun r6 => ?_)
        obtain ⟨P1, g1⟩ : ∃ P1 : FM, P1 = pq M3 168 116 (M3 168 116 + 8 + (le (lf LR) (a2 + 6) 2 + 1)) := ⟨_, rfl⟩
        obtain ⟨P2, g2⟩ : ∃ P2 : FM, P2 = pq P1 168 117 (P1 168 117 - 1) := ⟨_, rfl⟩
        have F4 : moF M P2 := by
          rw [g2, g1]
          exact mo_trans (mo_trans F3 (mo_put _ _ (by omega))) (mo_put _ _ (by omega))
        have TL : fm_X (d + 7) kd356 14 [some (fx 168), some (ti j), some (ti (a2 + 8)), some (ti (le (lf LR) (a2 + 6) 2 + 1))] [] (sh, P2, nx, zl) K := by
          refine ih (a2 + 9 + le (lf LR) (a2 + 6) 2) (l2 - 1) hd2 (a2 + 8) (le (lf LR) (a2 + 6) 2 + 1) (pre ++ [(hd2, a2)]) P2 (by omega) F4 ⟨?_, ?_, ?_⟩ (fun _ => ⟨?_, hh⟩) (by omega) (by omega) (by omega) (fun E => ?_)
          · rw [g2, pq_ne _ _ _ _ (by omega), g1, pq_ne _ _ _ _ (by omega)]
            exact t12
          · rw [g2, pq_ne _ _ _ _ (by omega), g1, pq_at, t16]
            omega
          · rw [g2, pq_at, g1, pq_ne _ _ _ _ (by omega), t17]
          · rw [g2, pq_ne _ _ _ _ (by omega), g1, pq_ne _ _ _ _ (by omega)]
            exact t18
          · rw [hI E]
            constructor
            · rintro ⟨E2, q1, q2⟩
              obtain ⟨x, y, zz, r, y0, y1, y2, y3, y4, y5⟩ := ok_inv (by omega) q2
              obtain ⟨w1, w2, w3⟩ := hx1 x y zz y1
              rw [w1, w2, w3] at y5
              rw [w1, w2] at y0
              exact ⟨r, by rw [q1, y0, List.append_assoc]; rfl, y5⟩
            · rintro ⟨r, q1, q2⟩
              exact ⟨(hd2, a2) :: r, by rw [q1, List.append_assoc]; rfl, ok_cons nh z2 z3 z4 q2⟩
        rw [g2, g1, ← t16] at TL
        rw [← t16]
        exact TL
      refine s356_14 (d + 7) K _ _ _ ?_
      refine ⟨by omega, fun w => ?_, fun w => ?_⟩
      · have ea : a = e := by omega
        refine ⟨by omega, fun w2 => ⟨Or.inl rfl, NO M1 F1 (fun E hE => ?_)⟩, fun w2 => ?_⟩
        · obtain ⟨E2, -, hE2⟩ := (hI E).1 hE
          obtain ⟨x, y, zz, r, -, y1, y2, -⟩ := ok_inv (by omega) hE2
          have := nxH_r y1
          have := y2.1
          have := le_nn (lf LR) 2 (y + 6)
          omega
        have okp : okW IR IS (lf LR) h e b 0 0 [] pre := by
          refine (hI pre).2 ⟨[], (List.append_nil _).symm, ⟨⟨ea, by omega⟩, fun q hq => ?_⟩, trivial⟩
          cases hq
        have CS := cs_rf0 (g := lf IR) (LS := LS) (ix := pl j + fxT (le (lf IR) (pl j) 2)) okp.1.1 ixnn
        refine areIndexes_Y hL1 hj hk hop okp.1.1 (fun M3 z F3 hz => ?_)
        have F13 := mo_trans F1 F3
        rcases hz.symm with ⟨z1, z2⟩ | ⟨z1, z2⟩
        · rw [z1]
          refine ⟨by omega, fun _ => ⟨Or.inl rfl, k M3 0 F13 (Or.inr ⟨rfl, fun q => ?_⟩)⟩, fun q => absurd rfl q⟩
          obtain ⟨E, b2, e2, q1, q2, q3, q4⟩ := q
          obtain ⟨r1, r2⟩ := opP_one hs hop q1
          rw [r1, r2] at q2
          rw [r1] at q4
          rw [wk_one _ _ _ _ _ q2.1 okp.1.1] at q4
          exact z2 (CS.1 q4)
        · rw [z1]
          exact ⟨by omega, fun q => by omega, fun _ => ⟨Or.inr rfl, k M3 1 F13 (Or.inl ⟨rfl, pre, b, e, hop, okp.1, okp.2, CS.2 z2⟩)⟩⟩
      · refine ⟨by omega, fun w2 => ?_, fun w2 => ?_⟩
        · refine ⟨by omega, fun w3 => ?_, fun w3 => absurd w3 w2⟩
          have hl0 : l ≠ 0 := by omega
          obtain ⟨t1, t2, t3⟩ := h18 hl0
          refine B106 M1 hd a l F1 ⟨m12, m16, m17⟩ t1 (by omega) (by omega) (by omega) (by omega) (fun x y z q => ?_) (fun _ => Or.inl ⟨hl0, rfl, rfl, rfl⟩)
          rcases q with q | q
          · exact ⟨q.2.1, q.2.2.1, q.2.2.2⟩
          · exact absurd q.1 hl0
        · have hl0 : l = 0 := by omega
          have NH : ¬ (a + 12 ≤ e ∧ le (lf LR) a 4 ≤ 255) → K (some (ti 0)) (sh, M1, nx, zl) := by
            intro no
            refine NO M1 F1 (fun E hE => ?_)
            obtain ⟨E2, -, hE2⟩ := (hI E).1 hE
            obtain ⟨x, y, zz, r, -, y1, -⟩ := ok_inv (by omega) hE2
            rcases y1 with q | q
            · exact q.1 hl0
            · exact no ⟨q.2.1.1, q.2.1.2.1⟩
          refine ⟨by omega, fun w3 => ⟨Or.inl rfl, NH (by omega)⟩, fun w3 => ?_⟩
          refine w4_Y a hL1 (by omega) (by omega) (fun r4 => ?_)
          refine ⟨by omega, fun w4 => ?_, fun w4 => ⟨Or.inl rfl, NH (by omega)⟩⟩
          refine ⟨by omega, fun w5 => absurd w2 w5, fun w5 => ?_⟩
          obtain ⟨P1, g1⟩ : ∃ P1 : FM, P1 = pq M1 168 118 (M1 168 116) := ⟨_, rfl⟩
          have p12 : P1 168 112 = e := by rw [g1, pq_ne _ _ _ _ (by omega)]; exact m12
          have p16 : P1 168 116 = a := by rw [g1, pq_ne _ _ _ _ (by omega)]; exact m16
          have p18 : P1 168 118 = a := by rw [g1, pq_at]; exact m16
          have F2' : moF M P1 := by
            rw [g1]
            exact mo_trans F1 (mo_put _ _ (by omega))
          have T1 : (o_al 0 (o_al 0 (o_al 0 (o_get 12 116 116 (o_ic 4 (o_callv (d + 7) 359 2 12 (o_l2i (o_ic 1 (o_iadd (o_put 12 117 117 (o_al 0 (o_al 0 (o_get 12 116 116 (o_ic 12 (o_iadd (o_put 12 116 116 (b356_106 (d + 7) (fW (d + 7) kd356 K) K)))))))))))))))) : FC) [some (fx 168), some (ti j), some (ti la), some (ti ls)] [] (sh, P1, nx, zl) := by
            refine w4_Y a (mlC_to hL F2') (by omega) (by omega) (fun _ => ?_)
            obtain ⟨P2, g2⟩ : ∃ P2 : FM, P2 = pq P1 168 117 (le (lf LR) a 4 + 1) := ⟨_, rfl⟩
            obtain ⟨P3, g3⟩ : ∃ P3 : FM, P3 = pq P2 168 116 (P2 168 116 + 12) := ⟨_, rfl⟩
            have p216 : P2 168 116 = a := by rw [g2, pq_ne _ _ _ _ (by omega)]; exact p16
            have T2 : b356_106 (d + 7) (fW (d + 7) kd356 K) K [some (fx 168), some (ti j), some (ti la), some (ti ls)] [] (sh, P3, nx, zl) := by
              refine B106 P3 a (a + 12) (le (lf LR) a 4 + 1) ?_ ⟨?_, ?_, ?_⟩ ?_ (by omega) (by omega) (by omega) (by omega) (fun x y z q => ?_) (fun q => ?_)
              · rw [g3, g2]
                exact mo_trans (mo_trans F2' (mo_put _ _ (by omega))) (mo_put _ _ (by omega))
              · rw [g3, pq_ne _ _ _ _ (by omega), g2, pq_ne _ _ _ _ (by omega)]
                exact p12
              · rw [g3, pq_at, p216]
              · rw [g3, pq_ne _ _ _ _ (by omega), g2, pq_at]
              · rw [g3, pq_ne _ _ _ _ (by omega), g2, pq_ne _ _ _ _ (by omega)]
                exact p18
              · rcases q with q | q
                · exact absurd hl0 q.1
                · exact ⟨q.2.2.1, q.2.2.2.1, q.2.2.2.2⟩
              · obtain ⟨y, ⟨i, i1, i2, -⟩, -⟩ := q
                exact Or.inr ⟨hl0, ⟨by omega, by omega, i, i1, i2⟩, rfl, rfl, rfl⟩
            rw [g3, g2] at T2
            exact T2
          rw [g1] at T1
          exact T1
  refine ⟨by omega, fun _ => ?_, fun z => by omega⟩
  refine L _ b 0 0 0 0 [] M2 (Nat.lt_succ_self _) F2 ⟨v12, v16, v17⟩ (fun z => absurd rfl z) (by omega) (by omega) (by omega) (fun E => ⟨fun q => ⟨E, rfl, q⟩, fun q => ?_⟩)
  obtain ⟨E2, q1, q2⟩ := q
  rw [q1]
  exact q2
theorem areListings_Y (hL : mlC M IR IS LR LS B ids F n pl h)
    (k : ∀ (M2 : FM) (z : Int), moF M M2 → (z = 1 ∧ lsA IR IS LR LS h pl n ∨ z = 0 ∧ ¬ lsA IR IS LR LS h pl n) → K (some (ti z)) (sh, M2, nx, zl)) : fm_Y (d + 9) 353 [.ref 168] (sh, M, nx, zl) K := by
  have nr := hL.1.2.1
  refine m353 [fx 168] ?_
  have L : ∀ (G : Nat) (j : Int) (M1 : FM), (n + 1 - j).toNat < G → 1 ≤ j → j ≤ n + 1 → moF M M1 → (∀ i : Int, 1 ≤ i → i < j → kdF IR pl i = 1 → liX IR IS LR LS h (pl i)) → fm_X (d + 8) kd353 2 [some (fx 168), some (ti j)] [] (sh, M1, nx, zl) K := by
    intro G
    induction G with
    | zero => intro j M1 q; omega
    | succ G ih =>
      intro j M1 q1 q2 q3 F1 ok
      have hL1 := mlC_to hL F1
      have nr1 := hL1.1.2.1
      refine s353_2 (d + 8) K _ _ _ ?_
      refine ⟨by omega, fun w => ⟨Or.inr rfl, k M1 1 F1 (Or.inl ⟨rfl, fun i i0 i1 => ok i i0 (by omega)⟩)⟩, fun w => ?_⟩
      refine isDirectory_Y hL1 (by omega) (fun z hz => ?_)
      rcases hz.symm with ⟨z1, z2⟩ | ⟨z1, z2⟩
      · rw [z1]
        refine ⟨by omega, fun _ => ?_, fun q => absurd rfl q⟩
        refine ih (j + 1) M1 (by omega) (by omega) (by omega) F1 (fun i i0 i1 => ?_)
        by_cases c : i < j
        · exact ok i i0 c
        · rw [show i = j by omega]
          intro q
          exact absurd q z2
      · rw [z1]
        refine ⟨by omega, fun q => by omega, fun _ => ?_⟩
        refine isListing_Y hL1 (by omega) z2 (fun M2 v F2 hv => ?_)
        have F12 := mo_trans F1 F2
        rcases hv.symm with ⟨v1, v2⟩ | ⟨v1, v2⟩
        · rw [v1]
          exact ⟨by omega, fun q => absurd rfl q, fun _ => ⟨Or.inl rfl, k M2 0 F12 (Or.inr ⟨rfl, fun q => v2 (q j (by omega) (by omega) z2)⟩)⟩⟩
        · rw [v1]
          refine ⟨by omega, fun _ => ?_, fun q => by omega⟩
          refine ih (j + 1) M2 (by omega) (by omega) (by omega) F12 (fun i i0 i1 => ?_)
          by_cases c : i < j
          · exact ok i i0 c
          · rw [show i = j by omega]
            intro _
            exact v2
  exact L _ 1 M (Nat.lt_succ_self _) (by omega) (by omega) (mo_refl M) (fun i i0 i1 => by omega)
end MLISTING
