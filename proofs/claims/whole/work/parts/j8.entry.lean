/-! QUERIES: entry -/
def eNt (E : List (Int × Int)) (i : Int) : Option (Int × Int) := if 0 ≤ i then E[i.toNat]? else none
theorem apq_get {pre r : List (Int × Int)} {q : Int × Int} : (pre ++ q :: r)[pre.length]? = some q := by simp
section ENTRY
variable {d nx zl : Nat} {K : Option TV → FH → Prop} {sh : Nat → Option Shp} {M : FM} {IR IS LR LS : List Int} {B ids F n : Int} {pl h ea : Int → Int}
theorem copyEntry_Y {j i : Int} (hL : ltC M IR IS LR LS B ids F n pl h) (hj : 1 ≤ j ∧ j ≤ n) (hi : -2147483648 ≤ i ∧ i ≤ 2147483647) (hA : kdT (le (lf IR) (pl j) 2) = 1 → liX IR IS LR LS h (pl j)) (h115 : kdT (le (lf IR) (pl j) 2) = 1 → M 115 j = (lsE IR IS LR LS h (pl j)).length)
    (k4 : kdT (le (lf IR) (pl j) 2) ≠ 1 → K (some (ti (-4))) (sh, M, nx, zl))
    (k2 : kdT (le (lf IR) (pl j) 2) = 1 → eNt (lsE IR IS LR LS h (pl j)) i = none → K (some (ti (-2))) (sh, M, nx, zl))
    (k1 : kdT (le (lf IR) (pl j) 2) = 1 → ∀ (hd a : Int), eNt (lsE IR IS LR LS h (pl j)) i = some (hd, a) → ∀ M2 : FM, (∀ c : Nat, c ≠ 6 → c ≠ 7 → c ≠ 100 → M2 c = M c) → M2 6 1 = le (lf LR) (a + 6) 2 + 1 → (∀ q : Int, 0 ≤ q → q < le (lf LR) (a + 6) 2 + 1 → M2 7 q % 256 = lf LR (a + 8 + q) % 256) → K (some (ti (chd (lf LR) hd a))) (sh, M2, nx, zl)) : fm_Y (d + 5) 230 [.ref 97, .int (Int32.ofInt j), .int (Int32.ofInt i), .ref 6] (sh, M, nx, zl) K := by
  have nr := hL.1.2.1
  have lr := hL.2.2.2.2.2
  have hs := hL.2.2.2.1.2.2.2.1
  have ag := hL.2.2.2.2.1
  obtain ⟨ap, hd0⟩ := nd_ok hL.1.1.2.1.2.1 hL.2.1 hj.1 hj.2
  have kr : 1 ≤ kdT (le (lf IR) (pl j) 2) ∧ kdT (le (lf IR) (pl j) 2) ≤ 7 := by
    have := hd0.2.1
    unfold kdT
    split <;> omega
  refine m230 [fx 97, ti j, ti i, fx 6] ?_
  refine kindOf_Y hL hj ?_
  refine ⟨by omega, fun w => ?_, fun w => k4 w⟩
  obtain ⟨E, b, e, li⟩ := hA w
  have eE := lsE_eq hs li
  have e115 := h115 w
  have kk2 := k2 w
  have kk1 := k1 w
  rw [eE] at e115 kk2 kk1
  have er := opP_r hs li.1
  have wl := wk_len _ _ _ _ li.2.1.1
  refine ⟨by omega, fun w1 => kk2 (if_neg (by omega)), fun w1 => ?_⟩
  refine ⟨by omega, ?_⟩
  refine ⟨by omega, fun w2 => kk2 ?_, fun w2 => ?_⟩
  · unfold eNt
    rw [if_pos w1]
    exact List.getElem?_eq_none (by omega)
  refine open_Y hL hj w (fun M2 o2 no => absurd li.1 (no b e)) (fun M2 b2 e2 o2 hop hv => ?_)
  obtain ⟨x1, x2⟩ := opP_one hs li.1 hop
  rw [x1, x2] at hv
  obtain ⟨v3, v4, v5, v7⟩ := hv
  refine ⟨by omega, fun _ => ?_, fun q => by omega⟩
  have L : ∀ (E2 pre : List (Int × Int)) (k a l hd al : Int) (M1 : FM), E = pre ++ E2 → k = pre.length → k ≤ i + 1 → (∀ c : Nat, c ≠ 100 → M1 c = M c) → (M1 100 4 = a ∧ M1 100 5 = e ∧ M1 100 7 = l) → (l ≠ 0 → hdC M1 IS (lf LR) hd) → (0 ≤ a ∧ a ≤ e) → (0 ≤ l ∧ l ≤ 256) → wkL IS (lf LR) e a l hd E2 → (0 < k → E[(k - 1).toNat]? = some (hd, al) ∧ hdC M1 IS (lf LR) hd ∧ (M1 100 10 = al + 8 ∧ M1 100 11 = le (lf LR) (al + 6) 2 + 1 ∧ M1 100 12 = al) ∧ nxE (lf LR) e al ∧ 0 ≤ al) → fm_X (d + 4) kd230 49 [some (fx 97), some (ti j), some (ti i), some (fx 6), some (ti k)] [] (sh, M1, nx, zl) K := by
    intro E2
    induction E2 with
    | nil =>
      intro pre k a l hd al M1 q1 q2 q3 F1 hm hh ha hl hE hlast
      have ek : k = E.length := by
        rw [q1, q2]
        simp
      have ki : k = i + 1 := by omega
      obtain ⟨g1, g2, ⟨g10, g11, g12⟩, g3, g4⟩ := hlast (by omega)
      have hL1 := ltC_to hL (M2 := M1) (fun c hc => F1 c (by omega))
      have E1 := g3.1
      have l6 := le_nn (lf LR) 2 (al + 6)
      have E2' := g3.2
      refine s230_49 (d + 4) K _ _ _ ?_
      refine ⟨by omega, fun _ => ?_, fun q => by omega⟩
      refine clear6_Y (fun M3 F3 s3 => ?_)
      have e100 : M3 100 = M1 100 := F3 100 (by omega)
      refine put6_Y (c := 112) (nc := 65536) rfl (by omega) (by omega) (by omega) (by omega) (by rw [e100]; omega) (by rw [e100]; omega) (by rw [e100]; omega) (by rw [e100]; omega) (fun M4 F4 s4 b4 _ => ?_)
      have f100 : M4 100 = M1 100 := (F4 100 (by omega) (by omega)).trans e100
      have hL4 := ltC_to hL1 (M2 := M4) (fun c hc => (F4 c (by omega) (by omega)).trans (F3 c (by omega)))
      refine child_Y hL4 (hdC_to g2 (by rw [f100]) (by rw [f100]) (by rw [f100])) (by rw [f100]; exact g12) g4 g3 (by omega) (fun cr => ?_)
      refine kk1 hd al ?_ M4 (fun c c1 c2 c3 => (F4 c c1 c2).trans ((F3 c c1).trans (F1 c c3))) ?_ (fun q q0 q1 => ?_)
      · unfold eNt
        rw [if_pos w1, show i = k - 1 by omega]
        exact g1
      · rw [s4, s3, e100, g11]
        omega
      · have z := b4 q q0 (by rw [e100, g11]; exact q1)
        rw [s3, Int.zero_add, e100, g10] at z
        rw [z, F3 112 (by omega), F1 112 (by omega)]
        exact ag _ (by omega) (by omega)
    | cons q E2 ih =>
      intro pre k a l hd al M1 q1 q2 q3 F1 hm hh ha hl hE hlast
      have hL1 := ltC_to hL (M2 := M1) (fun c hc => F1 c (by omega))
      refine s230_49 (d + 4) K _ _ _ ?_
      refine ⟨by omega, fun w4 => ?_, fun w4 => ?_⟩
      · have ki : k = i + 1 := by omega
        obtain ⟨g1, g2, ⟨g10, g11, g12⟩, g3, g4⟩ := hlast (by omega)
        have E1 := g3.1
        have l6 := le_nn (lf LR) 2 (al + 6)
        have E2' := g3.2
        refine clear6_Y (fun M3 F3 s3 => ?_)
        have e100 : M3 100 = M1 100 := F3 100 (by omega)
        refine put6_Y (c := 112) (nc := 65536) rfl (by omega) (by omega) (by omega) (by omega) (by rw [e100]; omega) (by rw [e100]; omega) (by rw [e100]; omega) (by rw [e100]; omega) (fun M4 F4 s4 b4 _ => ?_)
        have f100 : M4 100 = M1 100 := (F4 100 (by omega) (by omega)).trans e100
        have hL4 := ltC_to hL1 (M2 := M4) (fun c hc => (F4 c (by omega) (by omega)).trans (F3 c (by omega)))
        refine child_Y hL4 (hdC_to g2 (by rw [f100]) (by rw [f100]) (by rw [f100])) (by rw [f100]; exact g12) g4 g3 (by omega) (fun cr => ?_)
        refine kk1 hd al ?_ M4 (fun c c1 c2 c3 => (F4 c c1 c2).trans ((F3 c c1).trans (F1 c c3))) ?_ (fun q q0 q1 => ?_)
        · unfold eNt
          rw [if_pos w1, show i = k - 1 by omega]
          exact g1
        · rw [s4, s3, e100, g11]
          omega
        · have z := b4 q q0 (by rw [e100, g11]; exact q1)
          rw [s3, Int.zero_add, e100, g10] at z
          rw [z, F3 112 (by omega), F1 112 (by omega)]
          exact ag _ (by omega) (by omega)
      obtain ⟨hd2, a2⟩ := q
      obtain ⟨l2, n1, n2, n3⟩ := hE
      dsimp only at n1 n2 n3
      have l6 := le_nn (lf LR) 2 (a2 + 6)
      have E1 := n2.1
      have na := nxH_r n1
      have hl2 : 1 ≤ l2 ∧ l2 ≤ 256 := by
        rcases n1 with z | z
        · omega
        · have z2 := z.2.1.2.1
          have z3 := le_nn (lf LR) 4 a
          omega
      refine next_Y (hd := hd) hL1 hm.1 hm.2.1 hm.2.2 hh (by omega) (by omega) hl (fun M3 no o3 s3 fin r3 => absurd n2 (no hd2 a2 l2 n1)) (fun M3 hd3 a3 l3 m1 m2 o3 s3 t3 hc3 => ?_)
      obtain ⟨u1, u2, u3⟩ := nxH_one m1 n1
      rw [u2, u3] at s3
      rw [u2] at t3
      rw [u1] at hc3
      refine ⟨by omega, fun _ => ?_, fun q => by omega⟩
      have ek : k < E.length := by
        rw [q1, q2]
        simp only [List.length_append, List.length_cons]
        omega
      refine ih (pre ++ [(hd2, a2)]) (k + 1) (a2 + 9 + le (lf LR) (a2 + 6) 2) (l2 - 1) hd2 a2 M3 (by rw [q1]; simp) (by rw [q2]; simp) (by omega) (fun c hc => (o3 c hc).trans (F1 c hc)) ⟨s3.2.1, s3.2.2.1, s3.2.2.2⟩ (fun _ => hc3) (by omega) (by omega) n3 (fun _ => ⟨?_, hc3, t3, n2, by omega⟩)
      rw [show (k + 1 - 1).toNat = pre.length by omega, q1]
      exact apq_get
  exact L E [] 0 b 0 0 0 M2 rfl rfl (by omega) o2 ⟨v4, v5, v7⟩ (fun q => absurd rfl q) (by omega) (by omega) li.2.1.1 (fun q => by omega)
theorem mentry_Y {M0 : FM} {j i : Int} (hj : -2147483648 ≤ j ∧ j ≤ 2147483647) (hi : -2147483648 ≤ i ∧ i ≤ 2147483647) (hV : VV KC WW M0) (e91 : M 168 91 = M0 168 91) (e92 : M 168 92 = M0 168 92) (h8 : inq M0 j → mlC M IR IS LR LS B ids F n pl h ∧ j ≤ n ∧ (kdT (le (lf IR) (pl j) 2) = 1 → liX IR IS LR LS h (pl j)))
    (k0 : ¬ inq M0 j → K (some (ti (-1))) (sh, M, nx, zl))
    (k4 : inq M0 j → kdT (le (lf IR) (pl j) 2) ≠ 1 → K (some (ti (-4))) (sh, M, nx, zl))
    (k2 : inq M0 j → kdT (le (lf IR) (pl j) 2) = 1 → eNt (lsE IR IS LR LS h (pl j)) i = none → ∀ M2 : FM, moF M M2 → K (some (ti (-2))) (sh, M2, nx, zl))
    (k1 : inq M0 j → kdT (le (lf IR) (pl j) 2) = 1 → ∀ (hd a : Int), eNt (lsE IR IS LR LS h (pl j)) i = some (hd, a) → 0 ≤ le (lf LR) (a + 6) 2 ∧ le (lf LR) (a + 6) 2 ≤ 255 → ∀ M2 : FM, (∀ c : Nat, c ≠ 168 → c ≠ 170 → M2 c = M c) → (∀ q : Int, (q < 111 ∨ 118 < q) → q ≠ 4 → M2 168 q = M 168 q) → M2 168 4 = le (lf LR) (a + 6) 2 + 1 → (∀ q : Int, 0 ≤ q → q < le (lf LR) (a + 6) 2 + 1 → M2 170 q % 256 = lf LR (a + 8 + q) % 256) → K (some (ti (chd (lf LR) hd a))) (sh, M2, nx, zl)) : fm_Y (d + 6) 393 [.ref 168, .int (Int32.ofInt j), .int (Int32.ofInt i)] (sh, M, nx, zl) K := by
  refine m393 [fx 168, ti j, ti i] ?_
  refine isInode_Y hj hV e91 e92 (fun z hz => ?_)
  rcases hz.symm with ⟨z1, z2⟩ | ⟨z1, z2⟩
  · rw [z1]
    exact ⟨by omega, fun q => absurd rfl q, fun _ => k0 z2⟩
  rw [z1]
  obtain ⟨hL, jn, hA⟩ := h8 z2
  have j1 := z2.2.1
  have lr := hL.2.2.2.2.2.1.2
  have hs := hL.2.2.2.2.2.2.1
  have ag := hL.2.2.2.2.2.1.1
  refine ⟨by omega, fun _ => ?_, fun q => by omega⟩
  refine isDirectory_Y hL ⟨j1, jn⟩ (fun y hy => ?_)
  rcases hy.symm with ⟨y1, y2⟩ | ⟨y1, y2⟩
  · rw [y1]
    exact ⟨by omega, fun q => absurd rfl q, fun _ => k4 z2 y2⟩
  rw [y1]
  refine ⟨by omega, fun _ => ?_, fun q => by omega⟩
  obtain ⟨E, b, e, li⟩ := hA y2
  have eE := lsE_eq hs li
  have kk2 := k2 z2 y2
  have kk1 := k1 z2 y2
  rw [eE] at kk2 kk1
  have er := opP_r hs li.1
  have wl := wk_len _ _ _ _ li.2.1.1
  refine openListing_Y hL ⟨j1, jn⟩ y2 (fun M2 F2 no => absurd li.1 (no b e)) (fun M2 b2 e2 F2 op v => ?_)
  obtain ⟨x1, x2⟩ := opP_one hs li.1 op
  rw [x1, x2] at v
  obtain ⟨v11, v12, v16, v17⟩ := v
  have L : ∀ (E2 pre : List (Int × Int)) (k a l hd : Int) (M1 : FM) (y5 : Option TV), E = pre ++ E2 → k = pre.length → (0 ≤ i → k ≤ i) → moF M M1 → (M1 168 112 = e ∧ M1 168 116 = a ∧ M1 168 117 = l) → (l ≠ 0 → M1 168 118 = hd ∧ 0 ≤ hd ∧ hd + 12 ≤ e) → 0 ≤ a → (0 ≤ l ∧ l ≤ 256) → wkL IS (lf LR) e a l hd E2 → fm_X (d + 5) kd393 30 [some (fx 168), some (ti j), some (ti i), some (ti 1), some (ti k), y5] [] (sh, M1, nx, zl) K := by
    intro E2
    induction E2 with
    | nil =>
      intro pre k a l hd M1 y5 q1 q2 q3 F1 hm h18 ha hl hE
      have ee := hE.1
      have ek : k = E.length := by
        rw [q1, q2]
        simp
      refine s393_30 (d + 5) K _ _ _ ?_
      refine ⟨by omega, fun q => by omega, fun _ => ?_⟩
      refine ⟨by omega, fun w => kk2 (if_neg (by omega)) M1 F1, fun w => ?_⟩
      refine nextEnd_Y (a := a) (by omega) (by omega) (by omega) ?_
      refine ⟨by omega, fun _ => kk2 ?_ M1 F1, fun q => absurd rfl q⟩
      unfold eNt
      rw [if_pos w]
      exact List.getElem?_eq_none (by omega)
    | cons q E2 ih =>
      intro pre k a l hd M1 y5 q1 q2 q3 F1 hm h18 ha hl hE
      obtain ⟨hd2, a2⟩ := q
      obtain ⟨l2, n1, n2, n3⟩ := hE
      dsimp only at n1 n2 n3
      have l6 := le_nn (lf LR) 2 (a2 + 6)
      have z3 := le_nn (lf LR) 4 a
      have E1 := n2.1
      have E3 := n2.2
      have hda : (0 ≤ hd2 ∧ hd2 + 12 ≤ e) ∧ a ≤ a2 ∧ (1 ≤ l2 ∧ l2 ≤ 256) := by
        rcases n1 with z | z
        · have := h18 z.1
          omega
        · have z1 := z.2.1.1
          have z2 := z.2.1.2.1
          omega
      refine s393_30 (d + 5) K _ _ _ ?_
      refine ⟨by omega, fun q => by omega, fun _ => ?_⟩
      refine ⟨by omega, fun w => kk2 (if_neg (by omega)) M1 F1, fun w => ?_⟩
      have q3' := q3 w
      refine nextEntry_Y (mlC_to hL F1) hm.1 hm.2.1 hm.2.2 h18 ha (by omega) hl n1 n2 (fun M3 F3 t1 t2 t3 => ?_)
      have F13 := mo_trans F1 F3
      refine ⟨by omega, fun q => by omega, fun _ => ?_⟩
      have ek : k < E.length := by
        rw [q1, q2]
        simp only [List.length_append, List.length_cons]
        omega
      refine ⟨by omega, fun w2 => ?_, fun w2 => ?_⟩
      · exact ih (pre ++ [(hd2, a2)]) (k + 1) (a2 + 9 + le (lf LR) (a2 + 6) 2) (l2 - 1) hd2 M3 _ (by rw [q1]; simp) (by rw [q2]; simp) (fun _ => by omega) F13 ⟨t1.2, t3.1, t3.2.1⟩ (fun _ => ⟨t3.2.2, hda.1⟩) (by omega) (by omega) n3
      · have eN : eNt E i = some (hd2, a2) := by
          unfold eNt
          rw [if_pos w, show i.toNat = pre.length by omega, q1]
          exact apq_get
        have kf := kk1 hd2 a2 eN ⟨l6, E3⟩
        obtain ⟨t13, t14, t15⟩ := t2
        obtain ⟨sz, gz⟩ : ∃ sz : Int, sz = le (lf LR) (a2 + 6) 2 + 1 := ⟨_, rfl⟩
        rw [← gz] at kf t15
        obtain ⟨P, gP⟩ : ∃ P : FM, P = pq M3 168 4 (M3 168 115) := ⟨_, rfl⟩
        have pm : ∀ i : Int, i ≠ 4 → P 168 i = M3 168 i := fun i hi => by rw [gP, pq_ne _ _ _ _ hi]
        have p4 : P 168 4 = sz := by rw [gP, pq_at]; exact t15
        have po : ∀ c : Nat, c ≠ 168 → P c = M3 c := fun c hc => by rw [gP, pq_o _ _ _ hc]
        have TL : (o_ic 0 (o_is 5 (fW (d + 5) kd393 K 62)) : FC) [some (fx 168), some (ti j), some (ti i), some (ti 1), some (ti k), y5] [] (sh, P, nx, zl) := by
          have L2 : ∀ (G : Nat) (x : Int) (M4 : FM), (sz - x).toNat < G → 0 ≤ x → x ≤ sz → (∀ c : Nat, c ≠ 170 → M4 c = P c) → (∀ q : Int, 0 ≤ q → q < x → M4 170 q % 256 = lf LR (a2 + 8 + q) % 256) → fm_X (d + 5) kd393 62 [some (fx 168), some (ti j), some (ti i), some (ti 1), some (ti k), some (ti x)] [] (sh, M4, nx, zl) K := by
            intro G
            induction G with
            | zero => intro x M4 q; omega
            | succ G ih2 =>
              intro x M4 r1 r2 r3 F4 hq
              have m168 : M4 168 = P 168 := F4 168 (by omega)
              have m115 : M4 168 115 = sz := by rw [m168, pm 115 (by omega)]; exact t15
              have m114 : M4 168 114 = a2 + 8 := by rw [m168, pm 114 (by omega)]; exact t14
              have m113 : M4 168 113 = chd (lf LR) hd2 a2 := by rw [m168, pm 113 (by omega)]; exact t13
              refine s393_62 (d + 5) K _ _ _ ?_
              refine ⟨by omega, fun v1 => ?_, fun v1 => ?_⟩
              · have T := kf M4 (fun c c1 c2 => (F4 c c2).trans ((po c c1).trans (F13.1 c c1))) (fun q h1 h2 => by rw [m168, pm q h2]; exact F13.2 q h1) (by rw [m168]; exact p4) (fun q q0 q1 => hq q q0 (by omega))
                rw [← m113] at T
                exact T
              · refine ⟨by omega, ?_⟩
                refine ⟨by omega, ?_⟩
                obtain ⟨R, gR⟩ : ∃ R : FM, R = pq M4 170 x ((M4 245 (M4 168 114 + x) + 128) % 256 - 128) := ⟨_, rfl⟩
                have T : fm_X (d + 5) kd393 62 [some (fx 168), some (ti j), some (ti i), some (ti 1), some (ti k), some (ti (x + 1))] [] (sh, R, nx, zl) K := by
                  refine ih2 (x + 1) R (by omega) (by omega) (by omega) (fun c hc => by rw [gR, pq_o _ _ _ hc]; exact F4 c hc) (fun q q0 q1 => ?_)
                  by_cases c : q = x
                  · rw [c, gR, pq_at, m114, F4 245 (by omega), po 245 (by omega), F13.1 245 (by omega)]
                    have := ag (a2 + 8 + x) (by omega) (by omega)
                    omega
                  · rw [gR, pq_ne _ _ _ _ c]
                    exact hq q q0 (by omega)
                rw [gR] at T
                exact T
          exact L2 _ 0 P (Nat.lt_succ_self _) (by omega) (by omega) (fun c _ => rfl) (fun q q0 q1 => by omega)
        rw [gP] at TL
        exact TL
  exact L E [] 0 b 0 0 M2 _ rfl rfl (fun q => q) F2 ⟨v12, v16, v17⟩ (fun q => absurd rfl q) (by omega) (by omega) li.2.1.1
end ENTRY
section CENTRY
variable {L d : Nat} {xs : Nat → Int32}
theorem call_entry {j i : Int} (hj : -2147483648 ≤ j ∧ j ≤ 2147483647) (hi : -2147483648 ≤ i ∧ i ≤ 2147483647) : ca_I (VV KC WW) L xs (d + 7) 229 393 [.int (Int32.ofInt j), .int (Int32.ofInt i)] := by
  intro k H hR
  obtain ⟨sh, M, nx, zl⟩ := H
  have hV : VV KC WW M := hR.2.2.2.2
  have hO : outR M := hR.2.2.1
  obtain ⟨f, gf⟩ : ∃ f : Int → Int, f = M 211 := ⟨_, rfl⟩
  obtain ⟨s, gs⟩ : ∃ s : Int, s = M 168 59 := ⟨_, rfl⟩
  have W : inq M j → ftO f s ∧ mtC M f s ∧ mtM M f s ∧ (1 ≤ j ∧ j ≤ le f 4 4) := inq_W hV gf gs
  have LI : inq M j → kdT (le (lf (rwR (qI f))) (plf f j) 2) = 1 → liX (rwR (qI f)) (rwS (qI f)) (rwR (qL f)) (rwS (qL f)) (hf f) (plf f j) := by
    intro q hk
    obtain ⟨w1, w2, w3, jr⟩ := W q
    exact w1.2.2.2.2.2.1 j jr.1 jr.2 hk
  refine m229 [fx 3, ti j, ti i] ?_
  refine has_Y hj hV (fun z hz => ?_)
  rcases hz.symm with ⟨z1, z2⟩ | ⟨z1, z2⟩
  · rw [z1]
    refine ⟨by omega, fun _ => ⟨-1, rfl, ⟨rfl, rfl⟩, ?_⟩, fun q => absurd rfl q⟩
    exact mentry_Y (d := d + 1) (IR := rwR (qI f)) (IS := rwS (qI f)) (LR := rwR (qL f)) (LS := rwS (qL f)) (B := le f 12 4) (ids := le f 26 2) (F := le f 16 4) (n := le f 4 4) (pl := plf f) (h := hf f) hj hi hV rfl rfl (fun q => absurd q z2) (fun _ => ⟨rfl, RR_next hR⟩) (fun q => absurd q z2) (fun q => absurd q z2) (fun q => absurd q z2)
  rw [z1]
  obtain ⟨w1, w2, w3, jr⟩ := W z2
  refine ⟨by omega, fun q => by omega, fun _ => ?_⟩
  have e115 : kdT (le (lf (rwR (qI f))) (plf f j) 2) = 1 → M 115 j = (lsE (rwR (qI f)) (rwS (qI f)) (rwR (qL f)) (rwS (qL f)) (hf f) (plf f j)).length := by
    intro hk
    have hk' : kdQ f j = 1 := hk
    rw [w2.2.2.2.1 j jr.1 jr.2]
    unfold eaQ
    rw [eaA_at, if_pos ⟨jr.1, by omega, hk'⟩]
    rfl
  have MP : ∀ (M1 : FM) (v : Int), (∀ c : Nat, c ≠ 6 → c ≠ 7 → c ≠ 100 → M1 c = M c) → (kdT (le (lf (rwR (qI f))) (plf f j) 2) ≠ 1 → v = -4 ∧ M1 = M) → (kdT (le (lf (rwR (qI f))) (plf f j) 2) = 1 → eNt (lsE (rwR (qI f)) (rwS (qI f)) (rwR (qL f)) (rwS (qL f)) (hf f) (plf f j)) i = none → v = -2 ∧ M1 = M) → (kdT (le (lf (rwR (qI f))) (plf f j) 2) = 1 → ∀ hd a : Int, eNt (lsE (rwR (qI f)) (rwS (qI f)) (rwR (qL f)) (rwS (qL f)) (hf f) (plf f j)) i = some (hd, a) → v = chd (lf (rwR (qL f))) hd a ∧ M1 6 1 = le (lf (rwR (qL f))) (a + 6) 2 + 1 ∧ (∀ q : Int, 0 ≤ q → q < le (lf (rwR (qL f))) (a + 6) 2 + 1 → M1 7 q % 256 = lf (rwR (qL f)) (a + 8 + q) % 256)) → fm_Y (d + 7) 393 [.ref 168, .int (Int32.ofInt j), .int (Int32.ofInt i)] (sh, M1, nx, zl) (fun w2 H2 => w2 = some (ti v) ∧ RR (VV KC WW) L xs (k + 1) H2) := by
    intro M1 v F1 v4 v2 v1
    have e168 : M1 168 = M 168 := F1 168 (by omega) (by omega) (by omega)
    have w31 := mlC_x w3.1.1 (M2 := M1) (fun c hc => F1 c (by omega) (by omega) (by omega)) (fun i _ => by rw [e168])
    refine mentry_Y (d := d + 1) hj hi hV (by rw [e168]) (by rw [e168]) (fun q => ⟨w31, jr.2, LI q⟩) (fun no => absurd z2 no) (fun _ q => ?_) (fun _ q1 q2 M2 F2 => ?_) (fun _ q1 hd a q2 rl M2 F2 G2 s2 b2 => ?_)
    · obtain ⟨x1, x2⟩ := v4 q
      rw [x1, x2]
      exact ⟨rfl, RR_next hR⟩
    · obtain ⟨x1, x2⟩ := v2 q1 q2
      rw [x2] at F2
      rw [x1]
      exact ⟨rfl, RR_q hR (fun c hc => F2.1 c (by omega)) (fun i hi _ => F2.2 i (by omega)) (F2.1 3 (by omega)) ⟨fun c hc => F2.1 c (by omega), fun i hi => F2.2 i (by omega)⟩ (outR_to hO (F2.1 6 (by omega)) (F2.1 7 (by omega)) (F2.1 170 (by omega)) (F2.2 4 (by omega)))⟩
    · obtain ⟨x1, x2, x3⟩ := v1 q1 hd a q2
      have FF : ∀ c : Nat, c ≠ 6 → c ≠ 7 → c ≠ 100 → c ≠ 168 → c ≠ 170 → M2 c = M c := fun c c1 c2 c3 c4 c5 => (F2 c c4 c5).trans (F1 c c1 c2 c3)
      have GG : ∀ i : Int, (i < 111 ∨ 118 < i) → i ≠ 4 → M2 168 i = M 168 i := fun i h1 h2 => (G2 i h1 h2).trans (by rw [e168])
      rw [x1]
      refine ⟨rfl, RR_q hR (fun c hc => FF c (by omega) (by omega) (by omega) (by omega) (by omega)) (fun i _ hi => GG i (by omega) hi) (FF 3 (by omega) (by omega) (by omega) (by omega) (by omega)) ⟨fun c hc => FF c (by omega) (by omega) (by omega) (by omega) (by omega), fun i hi => GG i (by omega) (by omega)⟩ ⟨?_, ?_, ?_⟩⟩
      · rw [s2]
        omega
      · rw [F2 6 (by omega) (by omega), x2, s2]
      · rw [F2 7 (by omega) (by omega), s2]
        refine sl_congr _ _ _ (fun i hi => ?_)
        rw [Int.zero_add, x3 _ (by omega) (by omega), b2 _ (by omega) (by omega)]
  refine copyEntry_Y w2.1.1 jr hi (LI z2) e115 (fun q => ?_) (fun q1 q2 => ?_) (fun q1 hd a q2 M1 F1 s1 b1 => ?_)
  · exact ⟨-4, rfl, ⟨rfl, rfl⟩, MP M (-4) (fun _ _ _ _ => rfl) (fun _ => ⟨rfl, rfl⟩) (fun q1 => absurd q1 q) (fun q1 => absurd q1 q)⟩
  · exact ⟨-2, rfl, ⟨rfl, rfl⟩, MP M (-2) (fun _ _ _ _ => rfl) (fun q => absurd q1 q) (fun _ _ => ⟨rfl, rfl⟩) (fun _ hd a q => by rw [q2] at q; cases q)⟩
  · refine ⟨_, rfl, ⟨rfl, F1 0 (by omega) (by omega) (by omega)⟩, MP M1 _ F1 (fun q => absurd q1 q) (fun _ q => by rw [q2] at q; cases q) (fun _ hd2 a3 q => ?_)⟩
    rw [q2] at q
    injection q with q
    injection q with q3 q4
    rw [← q3, ← q4]
    exact ⟨rfl, s1, b1⟩
end CENTRY
