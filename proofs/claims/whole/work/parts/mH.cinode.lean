/-! FREEZING: an inode; the class: its beginning, a file -/
def cmL (ty mo oi gi t nu : Int) : List Int := leL ty 2 ++ (leL mo 2 ++ (leL oi 2 ++ (leL gi 2 ++ (leL t 4 ++ leL nu 4))))
theorem cmL_len (ty mo oi gi t nu : Int) : (cmL ty mo oi gi t nu).length = 16 := by
  unfold cmL
  rw [List.length_append, List.length_append, List.length_append, List.length_append, List.length_append, leL_len, leL_len, leL_len, leL_len, leL_len, leL_len]
/-- a file's inode; cm: its beginning, by its type -/
def flB (cm : Int → List Int) (ties ze bg n fr pf : Int) (bk : List Int) : List Int := if 1 < ties ∨ 0 < ze then cm 9 ++ (leL bg 8 ++ (leL n 8 ++ (leL ze 8 ++ (leL ties 4 ++ (leL fr 4 ++ (leL pf 4 ++ (leL (-1) 4 ++ bk))))))) else cm 2 ++ (leL bg 4 ++ (leL fr 4 ++ (leL pf 4 ++ (leL n 4 ++ bk))))
theorem idB_app2 (B : List Int) : ∀ A : List Int, idB (A ++ B) = idB A ++ idB B
  | [] => rfl
  | x :: r => by
    show leL x 4 ++ idB (r ++ B) = leL x 4 ++ idB r ++ idB B
    rw [idB_app2 B r, List.append_assoc]
theorem idB_sl {f : Int → Int} {bl : List Int} {fb m : Nat} (h : sl f 0 (idB bl).length = idB bl) (hm : fb + m ≤ bl.length) : sl f (4 * fb) (4 * m) = idB ((bl.drop fb).take m) := by
  have e1 : bl = bl.take fb ++ ((bl.drop fb).take m ++ (bl.drop fb).drop m) := by rw [List.take_append_drop, List.take_append_drop]
  have l1 : (bl.take fb).length = fb := by
    rw [List.length_take]
    omega
  have l2 : ((bl.drop fb).take m).length = m := by
    rw [List.length_take, List.length_drop]
    omega
  have e2 : idB bl = idB (bl.take fb) ++ (idB ((bl.drop fb).take m) ++ idB ((bl.drop fb).drop m)) := by
    rw [← idB_app2, ← idB_app2, ← e1]
  have e3 : (idB bl).length = 4 * fb + (4 * m + 4 * (bl.length - fb - m)) := by
    rw [idB_len]
    omega
  rw [e3, sl_add, sl_add, e2] at h
  have i1 := List.append_inj h (by rw [sl_len, idB_len, l1])
  have i2 := List.append_inj i1.2 (by rw [sl_len, idB_len, l2])
  have := i2.1
  rw [show (0 : Int) + ((4 * fb : Nat) : Int) = 4 * fb by omega] at this
  exact this
section CINODE
variable {d nx zl : Nat} {K : Option TV → FH → Prop} {sh : Nat → Option Shp} {M : FM} {op : Int} {B : Nat} {sI : Option (List Int)}
theorem row70 (sh : Nat → Option Shp) : rowS sh 70 71 65536 := ⟨⟨rfl, rfl⟩, by decide, by decide, by decide, by decide⟩
theorem packsRows_Y (h17 : M 18 17 = op) (k : K (some (ti (1 - op % 2))) (sh, M, nx, zl)) : fm_Y (d + 1) 116 [.ref 18] (sh, M, nx, zl) K := by
  refine m116 [fx 18] ?_
  refine ⟨by omega, fun w => ?_, fun w => ?_⟩
  · refine ⟨Or.inl rfl, ?_⟩
    rw [show 1 - op % 2 = 0 by omega] at k
    exact k
  · refine ⟨Or.inr rfl, ?_⟩
    rw [show 1 - op % 2 = 1 by omega] at k
    exact k
theorem pstartAt_Y {q r b st n : Nat} {p : Int} (hq : psS sh q r b st n) (hp : 0 ≤ p ∧ p ≤ 65536) (k : K (some (ti (M st (p / 8192)))) (sh, M, nx, zl)) : fm_Y (d + 1) 111 [.ref q, .int (Int32.ofInt p)] (sh, M, nx, zl) K := by
  obtain ⟨⟨h1, h2, h3⟩, -⟩ := hq
  refine m111 [gr q, ti p] ?_
  refine ⟨_, h1, ?_⟩
  refine ⟨by omega, ?_⟩
  refine ⟨9, h3, ⟨by omega, by omega, by omega⟩, ?_⟩
  exact k
theorem preference_Y {q r b st n : Nat} {p : Int} (hq : psS sh q r b st n) (hp : 0 ≤ p ∧ p ≤ 65536) (hst : 0 ≤ M st (p / 8192) ∧ M st (p / 8192) ≤ 131072) (k : K (some (tj (M st (p / 8192) * 65536 + p % 8192))) (sh, M, nx, zl)) : fm_Y (d + 1) 108 [.ref q, .int (Int32.ofInt p)] (sh, M, nx, zl) K := by
  obtain ⟨⟨h1, h2, h3⟩, -⟩ := hq
  refine m108 [gr q, ti p] ?_
  refine ⟨_, h1, ?_⟩
  refine ⟨by omega, ?_⟩
  refine ⟨9, h3, ⟨by omega, by omega, by omega⟩, ?_⟩
  refine ⟨by omega, ?_⟩
  refine ⟨by omega, ?_⟩
  refine ⟨by omega, ?_⟩
  refine ⟨_, i64_or2 (k := 16) (by omega) (by decide) rfl (by omega) (by omega), ?_⟩
  rw [Int.add_comm] at k
  exact k
/-- what a node has that goes to its inode -/
def ndO (M : FM) (a : Nat) (ids : List Int) : Prop := (0 ≤ M a 5 ∧ M a 5 ≤ 4095) ∧ (-2147483648 ≤ M a 6 ∧ M a 6 ≤ 2147483647) ∧ (-2147483648 ≤ M a 7 ∧ M a 7 ≤ 2147483647) ∧ (-2147483648 ≤ M a 8 ∧ M a 8 ≤ 2147483647) ∧ (0 ≤ M a 14 ∧ M a 14 ≤ 2000) ∧ M a 6 ∈ ids ∧ M a 7 ∈ ids
theorem ndO_F {M M2 : FM} {a : Nat} {ids : List Int} (h : ndO M a ids) (e : M2 a = M a) : ndO M2 a ids := by
  unfold ndO at *
  rw [e]
  exact h
def cmA (M : FM) (a : Nat) (ids : List Int) (ty : Int) : List Int := cmL ty (M a 5) (ids.idxOf (M a 6)) (ids.idxOf (M a 7)) (M a 8) (M a 14)
/-- the ids as the class keeps them -/
def idV (M : FM) (ids : List Int) : Prop := rzO M 86 87 16000 (some (idB ids)) ∧ (∀ x ∈ ids, -2147483648 ≤ x ∧ x ≤ 2147483647) ∧ ids.length ≤ 4000
theorem idV_F {M M2 : FM} {ids : List Int} (h : idV M ids) (h1 : M2 86 = M 86) (h2 : M2 87 = M 87) : idV M2 ids := ⟨rzO_F h.1 h1 h2, h.2⟩
theorem putCommon_Y {a : Nat} {h9 t9 : Option Nat} {ids : List Int} {ty : Int} (hS : shp sh a = some (.inr (3, nodeFl h9 t9))) (ha : a = 17 ∨ 265 ≤ a) (hty : 0 ≤ ty ∧ ty ≤ 100) (hO : ndO M a ids) (hid : idV M ids) (hI : rzO M 70 71 65536 sI) (k : ∀ M2 : FM, (∀ y : Nat, y ≠ 70 → y ≠ 71 → M2 y = M y) → rzO M2 70 71 65536 (apO 65536 sI (cmA M a ids ty)) → K none (sh, M2, nx, zl)) : fm_Y (d + 3) 112 [.ref 18, .ref a, .int (Int32.ofInt ty)] (sh, M, nx, zl) K := by
  obtain ⟨⟨o1, o2⟩, o3, o4, o5, o6, o7, o8⟩ := id hO
  have i1 : ids.idxOf (M a 6) < ids.length := List.idxOf_lt_length_iff.2 o7
  have i2 : ids.idxOf (M a 7) < ids.length := List.idxOf_lt_length_iff.2 o8
  have il := hid.2.2
  refine m112 [fx 18, gr a, ti ty] ?_
  refine putTwo_O (row70 sh) (by omega) hI (fun M1 f1 w1 => ?_)
  have e1 : M1 a = M a := f1 a (by omega) (by omega)
  refine ⟨_, hS, ?_⟩
  refine putTwo_O (row70 sh) (by rw [e1]; omega) w1 (fun M2 f2 w2 => ?_)
  have e2 : M2 a = M a := by rw [f2 a (by omega) (by omega), e1]
  refine ⟨_, hS, ?_⟩
  refine idPlace_Y (l := ids) (rzO_F hid.1 (by rw [f2 86 (by omega) (by omega), f1 86 (by omega) (by omega)]) (by rw [f2 87 (by omega) (by omega), f1 87 (by omega) (by omega)])) hid.2.1 (by rw [e2]; exact o3) ?_
  have p1 : fiS ids (M2 a 6) = (ids.idxOf (M a 6) : Nat) := by
    rw [e2]
    exact if_pos o7
  rw [p1]
  refine putTwo_O (row70 sh) (by omega) w2 (fun M3 f3 w3 => ?_)
  have e3 : M3 a = M a := by rw [f3 a (by omega) (by omega), e2]
  refine ⟨_, hS, ?_⟩
  refine idPlace_Y (l := ids) (rzO_F hid.1 (by rw [f3 86 (by omega) (by omega), f2 86 (by omega) (by omega), f1 86 (by omega) (by omega)]) (by rw [f3 87 (by omega) (by omega), f2 87 (by omega) (by omega), f1 87 (by omega) (by omega)])) hid.2.1 (by rw [e3]; exact o4) ?_
  have p2 : fiS ids (M3 a 7) = (ids.idxOf (M a 7) : Nat) := by
    rw [e3]
    exact if_pos o8
  rw [p2]
  refine putTwo_O (row70 sh) (by omega) w3 (fun M4 f4 w4 => ?_)
  have e4 : M4 a = M a := by rw [f4 a (by omega) (by omega), e3]
  refine ⟨_, hS, ?_⟩
  refine putFour_O (row70 sh) (by rw [e4]; exact o5) w4 (fun M5 f5 w5 => ?_)
  have e5 : M5 a = M a := by rw [f5 a (by omega) (by omega), e4]
  refine ⟨_, hS, ?_⟩
  refine putFour_O (row70 sh) (by rw [e5]; omega) w5 (fun M6 f6 w6 => ?_)
  refine k M6 (fun y y1 y2 => by rw [f6 y y1 y2, f5 y y1 y2, f4 y y1 y2, f3 y y1 y2, f2 y y1 y2, f1 y y1 y2]) ?_
  rw [e1, e4, e5, apO_app, apO_app, apO_app, apO_app, apO_app] at w6
  unfold cmA cmL
  exact w6
theorem bytesOfZeros_Y {a : Nat} {h9 t9 : Option Nat} {n : Int} {bl : List Int} {fb : Nat} (hS : shp sh a = some (.inr (3, nodeFl h9 t9))) (hB : bB5 B) (hop : 0 ≤ op ∧ op ≤ 15) (h16 : M 18 16 = B) (h17 : M 18 17 = op) (h12 : M a 12 = n) (hn : 0 ≤ n ∧ n ≤ 65536) (h17a : M a 17 = 4 * fb) (hb : rzO M 92 93 8064 (some (idB bl))) (hbr : ∀ b ∈ bl, 0 ≤ b ∧ b ≤ 16842752) (hfb : fb + bkN op B n ≤ bl.length) (k : K (some (ti (zeB bl fb B n (bkN op B n).toNat))) (sh, M, nx, zl)) : fm_Y (d + 3) 115 [.ref 18, .ref a] (sh, M, nx, zl) K := by
  have br := bB5_r hB
  obtain ⟨⟨m0, m1⟩, m2, m3, ⟨r0, r1, r2⟩, m4⟩ := bkN_b (op := op) (B := B) (n := n) hB hn.1
  obtain ⟨⟨b0, b1⟩, b2, b3, b4⟩ := hb
  have bl4 := idB_len bl
  refine m115 [fx 18, gr a] ?_
  have LOOP : ∀ (N i : Nat), (bkN op B n).toNat - i < N → (i : Int) ≤ bkN op B n → fm_X (d + 2) kd115 4 [some (fx 18), some (gr a), some (ti (zeB bl fb B n i)), some (ti i)] [] (sh, M, nx, zl) K := by
    intro N
    induction N with
    | zero =>
      intro i hN
      omega
    | succ N ih =>
      intro i hN hi
      refine s115_4 (d + 2) K _ _ _ ?_
      refine fbCount_Y hS h12 hn h16 (by omega) h17 hop ?_
      refine ⟨by omega, fun w => ?_, fun w => ?_⟩
      · rw [show (bkN op B n).toNat = i by omega] at k
        exact k
      · have iB : (i : Int) * B < n := by
          have q := Int.mul_le_mul_of_nonneg_right (c := (B : Int)) (show (i : Int) ≤ bkN op B n - 1 by omega) (by omega)
          rw [if_neg (by omega)] at m2
          omega
        have i0 : (0 : Int) ≤ (i : Int) * B := by
          have := Int.natCast_nonneg (i * B)
          rw [Int.natCast_mul] at this
          exact this
        have ib : (i : Int) * M 18 16 = (i : Int) * B := by rw [h16]
        have hil : fb + i < bl.length := by omega
        obtain ⟨v, hv⟩ : ∃ v, bl[fb + i]? = some v := ⟨_, List.getElem?_eq_getElem hil⟩
        have vr := hbr v (List.mem_of_getElem? hv)
        have e4 := le_leL (idB_at bl 0 (fb + i) b3 hv)
        have es : zeB bl fb B n (i + 1) = zeB bl fb B n i + (if v = 0 then min (B : Int) (n - i * B) else 0) := by
          show zeB bl fb B n i + (if bl[fb + i]? = some 0 then min (B : Int) (n - i * B) else 0) = _
          rw [hv]
          by_cases c : v = 0
          · rw [if_pos c, if_pos (by rw [c])]
          · rw [if_neg c, if_neg (fun q => by injection q with q; exact c q)]
        clear m2
        refine ⟨_, hS, ?_⟩
        refine four_Y (row92 sh) (by omega) (by omega) (by omega) ?_
        have er : r4 (M 93) (M 92 1) (M a 17 + 4 * (i : Int)) = v := by
          unfold r4
          rw [if_pos (by omega), show M a 17 + 4 * (i : Int) = 0 + 4 * ((fb + i : Nat) : Int) by omega, e4]
          unfold s32
          omega
        rw [er]
        refine ⟨by omega, fun w2 => ?_, fun w2 => ?_⟩
        · have F := ih (i + 1) (by omega) (by omega)
          rw [es, if_neg w2, Int.add_zero] at F
          exact F
        · refine ⟨_, hS, ?_⟩
          refine ⟨by omega, ?_⟩
          have FI : ∀ mn : Int, mn = min (B : Int) (n - i * B) → (o_iadd (o_is 2 (b115_52 (d + 2) (fW (d + 2) kd115 K) K)) : FC) [some (fx 18), some (gr a), some (ti (zeB bl fb B n i)), some (ti i)] [ti mn, ti (zeB bl fb B n i)] (sh, M, nx, zl) := by
            intro mn hmn
            have F := ih (i + 1) (by omega) (by omega)
            rw [es, if_pos w2, ← hmn] at F
            exact F
          exact FI _ (by rw [ib, h16, h12])
  exact LOOP ((bkN op B n).toNat + 1) 0 (by omega) (by omega)
theorem cputFile_Y {a : Nat} {h9 t9 : Option Nat} {ids bl : List Int} {n : Int} {fb : Nat} (hS : shp sh a = some (.inr (3, nodeFl h9 t9))) (ha : a = 17 ∨ 265 ≤ a) (hO : ndO M a ids) (hid : idV M ids) (hB : bB5 B) (hop : 0 ≤ op ∧ op ≤ 15) (h16 : M 18 16 = B) (h17 : M 18 17 = op) (h12 : M a 12 = n) (hn : 0 ≤ n ∧ n ≤ 65536) (h9r : 0 ≤ M a 9 ∧ M a 9 ≤ 100000) (h17a : M a 17 = 4 * fb) (hr : (-1 ≤ M a 16 ∧ M a 16 ≤ 200000) ∧ (-1 ≤ M a 18 ∧ M a 18 ≤ 200000) ∧ (-1 ≤ M a 19 ∧ M a 19 ≤ 200000)) (hb : rzO M 92 93 8064 (some (idB bl))) (hbr : ∀ b ∈ bl, 0 ≤ b ∧ b ≤ 16842752) (hfb : fb + bkN op B n ≤ bl.length) (hze : 0 ≤ zeB bl fb B n (bkN op B n).toNat ∧ zeB bl fb B n (bkN op B n).toNat ≤ 65536) (hI : rzO M 70 71 65536 sI)
    (k : ∀ M2 : FM, (∀ y : Nat, y ≠ 70 → y ≠ 71 → M2 y = M y) → rzO M2 70 71 65536 (apO 65536 sI (flB (cmA M a ids) (M a 9) (zeB bl fb B n (bkN op B n).toNat) (M a 16) n (M a 18) (M a 19) (idB ((bl.drop fb).take (bkN op B n).toNat)))) → K none (sh, M2, nx, zl)) : fm_Y (d + 4) 114 [.ref 18, .ref a] (sh, M, nx, zl) K := by
  have br := bB5_r hB
  obtain ⟨⟨m0, m1⟩, m2, m3, ⟨r0, r1, r2⟩, m4⟩ := bkN_b (op := op) (B := B) (n := n) hB hn.1
  clear m2
  obtain ⟨ze, hze2⟩ : ∃ ze, ze = zeB bl fb B n (bkN op B n).toNat := ⟨_, rfl⟩
  obtain ⟨⟨b0, b1⟩, b2, b3, b4⟩ := id hb
  have bl4 := idB_len bl
  refine m114 [fx 18, gr a] ?_
  refine bytesOfZeros_Y hS hB hop h16 h17 h12 hn h17a hb hbr hfb ?_
  rw [← hze2] at hze k ⊢
  -- the blocks, last
  have B142 : ∀ (e : Int) (M1 : FM) (s1 : Option (List Int)), (∀ y : Nat, y ≠ 70 → y ≠ 71 → M1 y = M y) → rzO M1 70 71 65536 s1 → apO 65536 s1 (idB ((bl.drop fb).take (bkN op B n).toNat)) = apO 65536 sI (flB (cmA M a ids) (M a 9) ze (M a 16) n (M a 18) (M a 19) (idB ((bl.drop fb).take (bkN op B n).toNat))) → b114_142 (d + 3) (fW (d + 3) kd114 K) K [some (fx 18), some (gr a), some (fx 70), some (ti ze), some (ti e)] [] (sh, M1, nx, zl) := by
    intro e M1 s1 f1 w1 he
    have ea : M1 a = M a := f1 a (by omega) (by omega)
    refine ⟨_, hS, ?_⟩
    refine fbCount_Y (n := n) (B := B) (op := op) hS (by rw [ea]; exact h12) hn (by rw [f1 18 (by omega) (by omega)]; exact h16) (by omega) (by rw [f1 18 (by omega) (by omega)]; exact h17) hop ?_
    refine putAll_O (c := 93) (nc := 8064) (row70 sh) rfl (by omega) (by omega) (by omega) (by rw [ea]; omega) (by omega) (by rw [ea]; omega) w1 (fun M2 f2 w2 => ?_)
    refine k M2 (fun y y1 y2 => by rw [f2 y y1 y2, f1 y y1 y2]) ?_
    rw [ea, h17a, f1 93 (by omega) (by omega), show (4 * bkN op B n).toNat = 4 * (bkN op B n).toNat by omega, idB_sl b3 (by omega), he] at w2
    exact w2
  have B31 : ∀ e : Int, (e = 1 ∧ (1 < M a 9 ∨ 0 < ze) ∨ e = 0 ∧ ¬ (1 < M a 9 ∨ 0 < ze)) → b114_31 (d + 3) (fW (d + 3) kd114 K) K [some (fx 18), some (gr a), some (fx 70), some (ti ze), none] [ti e] (sh, M, nx, zl) := by
    intro e he
    rcases he with ⟨e1, e2⟩ | ⟨e1, e2⟩
    · refine ⟨by omega, fun w => by omega, fun w => ?_⟩
      refine putCommon_Y (ty := 9) hS ha (by omega) hO hid hI (fun M1 f1 w1 => ?_)
      have a1 : M1 a = M a := f1 a (by omega) (by omega)
      refine ⟨by omega, fun w => by omega, fun w => ?_⟩
      refine ⟨_, hS, ?_⟩
      refine ⟨by rw [a1]; omega, ?_⟩
      refine putEight_O (row70 sh) (by rw [a1]; omega) w1 (fun M2 f2 w2 => ?_)
      have a2 : M2 a = M a := by rw [f2 a (by omega) (by omega), a1]
      refine ⟨_, hS, ?_⟩
      refine ⟨by rw [a2, h12]; omega, ?_⟩
      refine putEight_O (row70 sh) (by rw [a2, h12]; omega) w2 (fun M3 f3 w3 => ?_)
      have a3 : M3 a = M a := by rw [f3 a (by omega) (by omega), a2]
      refine ⟨by omega, ?_⟩
      refine putEight_O (row70 sh) (by omega) w3 (fun M4 f4 w4 => ?_)
      have a4 : M4 a = M a := by rw [f4 a (by omega) (by omega), a3]
      refine ⟨_, hS, ?_⟩
      refine putFour_O (row70 sh) (by rw [a4]; omega) w4 (fun M5 f5 w5 => ?_)
      have a5 : M5 a = M a := by rw [f5 a (by omega) (by omega), a4]
      refine ⟨_, hS, ?_⟩
      refine putFour_O (row70 sh) (by rw [a5]; omega) w5 (fun M6 f6 w6 => ?_)
      have a6 : M6 a = M a := by rw [f6 a (by omega) (by omega), a5]
      refine ⟨_, hS, ?_⟩
      refine putFour_O (row70 sh) (by rw [a6]; omega) w6 (fun M7 f7 w7 => ?_)
      refine putFour_O (row70 sh) (by omega) w7 (fun M8 f8 w8 => ?_)
      refine B142 e M8 _ (fun y y1 y2 => by rw [f8 y y1 y2, f7 y y1 y2, f6 y y1 y2, f5 y y1 y2, f4 y y1 y2, f3 y y1 y2, f2 y y1 y2, f1 y y1 y2]) w8 ?_
      rw [a1, a2, a4, a5, a6, h12]
      unfold flB
      rw [if_pos e2]
      simp only [apO_app, List.append_assoc]
    · refine ⟨by omega, fun w => ?_, fun w => by omega⟩
      refine putCommon_Y (ty := 2) hS ha (by omega) hO hid hI (fun M1 f1 w1 => ?_)
      have a1 : M1 a = M a := f1 a (by omega) (by omega)
      refine ⟨by omega, fun w => ?_, fun w => by omega⟩
      refine ⟨_, hS, ?_⟩
      refine putFour_O (row70 sh) (by rw [a1]; omega) w1 (fun M2 f2 w2 => ?_)
      have a2 : M2 a = M a := by rw [f2 a (by omega) (by omega), a1]
      refine ⟨_, hS, ?_⟩
      refine putFour_O (row70 sh) (by rw [a2]; omega) w2 (fun M3 f3 w3 => ?_)
      have a3 : M3 a = M a := by rw [f3 a (by omega) (by omega), a2]
      refine ⟨_, hS, ?_⟩
      refine putFour_O (row70 sh) (by rw [a3]; omega) w3 (fun M4 f4 w4 => ?_)
      have a4 : M4 a = M a := by rw [f4 a (by omega) (by omega), a3]
      refine ⟨_, hS, ?_⟩
      refine putFour_O (row70 sh) (by rw [a4, h12]; omega) w4 (fun M5 f5 w5 => ?_)
      refine B142 e M5 _ (fun y y1 y2 => by rw [f5 y y1 y2, f4 y y1 y2, f3 y y1 y2, f2 y y1 y2, f1 y y1 y2]) w5 ?_
      rw [a1, a2, a3, a4, h12]
      unfold flB
      rw [if_neg e2]
      simp only [apO_app, List.append_assoc]
  refine ⟨_, hS, ?_⟩
  refine ⟨by omega, fun w => B31 1 (Or.inl ⟨rfl, Or.inl (by omega)⟩), fun w => ?_⟩
  refine ⟨by omega, fun w2 => B31 0 (Or.inr ⟨rfl, by omega⟩), fun w2 => B31 1 (Or.inl ⟨rfl, Or.inr (by omega)⟩)⟩
end CINODE
