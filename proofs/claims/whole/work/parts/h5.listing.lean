/-! MOUNTING: one listing; the class -/
/-- the entries of a listing (header, place) from a on, l left of the header hd -/
def wkL (IS : List Int) (lg : Int → Int) (e : Int) : Int → Int → Int → List (Int × Int) → Prop
  | a, l, _, [] => a = e ∧ l = 0
  | a, l, hd, q :: r => ∃ l2 : Int, nxH IS lg e a l hd q.1 q.2 l2 ∧ nxE lg e q.2 ∧ wkL IS lg e (q.2 + 9 + le lg (q.2 + 6) 2) (l2 - 1) q.1 r
def soL (lg : Int → Int) : List Int → List (Int × Int) → Prop
  | _, [] => True
  | nm, q :: r => ordL nm (nmS lg q.2) < 0 ∧ soL lg (nmS lg q.2) r
def ldP (g : Int → Int) (b hd a ix il : Int) : Prop := (a = hd + 12 ∧ b < hd) ∧ 0 < il ∧ le g ix 4 = hd - b
def csI (g lg : Int → Int) (LS : List Int) (b : Int) : List (Int × Int) → Int → Int → Prop
  | [], _, il => il = 0
  | q :: r, ix, il => (ldP g b q.1 q.2 ix il → idP g lg LS q.1 q.2 ix ∧ csI g lg LS b r (ix + 13 + le g (ix + 8) 4) (il - 1)) ∧ (¬ ldP g b q.1 q.2 ix il → csI g lg LS b r ix il)
def lkP (IR IS LS : List Int) (lg h : Int → Int) (b e a l hd : Int) (nm : List Int) (ix il : Int) (E : List (Int × Int)) : Prop := (wkL IS lg e a l hd E ∧ ∀ q ∈ E, enP IR IS lg h q.1 q.2) ∧ soL lg nm E ∧ csI (lf IR) lg LS b E ix il
/-- what a walk counts: ties, homes, entries, folders -/
def tiL (lg : Int → Int) : List (Int × Int) → (Int → Int) → Int → Int
  | [], t => t
  | q :: r, t => tiL lg r (ur t (chd lg q.1 q.2) (t (chd lg q.1 q.2) + 1))
def hoL (lg : Int → Int) (f : Int) : List (Int × Int) → (Int → Int) → Int → Int
  | [], t => t
  | q :: r, t => hoL lg f r (ur t (chd lg q.1 q.2) f)
def eaL (f : Int) : List (Int × Int) → (Int → Int) → Int → Int
  | [], t => t
  | _ :: r, t => eaL f r (ur t f (t f + 1))
def foL (lg kd : Int → Int) (f : Int) : List (Int × Int) → (Int → Int) → Int → Int
  | [], t => t
  | q :: r, t => foL lg kd f r (if kd (chd lg q.1 q.2) = 1 then ur t f (t f + 1) else t)
theorem nxH_one {IS : List Int} {lg : Int → Int} {e a l hd x y z x2 y2 z2 : Int} (h1 : nxH IS lg e a l hd x y z) (h2 : nxH IS lg e a l hd x2 y2 z2) : x = x2 ∧ y = y2 ∧ z = z2 := by
  rcases h1 with p | p
  · rcases h2 with q | q
    · exact ⟨p.2.1.trans q.2.1.symm, p.2.2.1.trans q.2.2.1.symm, p.2.2.2.trans q.2.2.2.symm⟩
    · exact absurd q.1 p.1
  · rcases h2 with q | q
    · exact absurd p.1 q.1
    · exact ⟨p.2.2.1.trans q.2.2.1.symm, p.2.2.2.1.trans q.2.2.2.1.symm, p.2.2.2.2.trans q.2.2.2.2.symm⟩
theorem nxH_go {IS : List Int} {lg : Int → Int} {e a l hd x y z : Int} (h1 : nxH IS lg e a l hd x y z) : ¬ (a = e ∧ l = 0) := by
  intro q
  rcases h1 with p | p
  · exact p.1 q.2
  · have := p.2.1.1
    omega
theorem lk_inv {IR IS LS : List Int} {lg h : Int → Int} {b e a l hd : Int} {nm : List Int} {ix il x y z : Int} {E : List (Int × Int)} (h1 : nxH IS lg e a l hd x y z) (hE : lkP IR IS LS lg h b e a l hd nm ix il E) : ∃ r : List (Int × Int), E = (x, y) :: r ∧ enP IR IS lg h x y ∧ ordL nm (nmS lg y) < 0 ∧ (ldP (lf IR) b x y ix il → idP (lf IR) lg LS x y ix ∧ lkP IR IS LS lg h b e (y + 9 + le lg (y + 6) 2) (z - 1) x (nmS lg y) (ix + 13 + le (lf IR) (ix + 8) 4) (il - 1) r) ∧ (¬ ldP (lf IR) b x y ix il → lkP IR IS LS lg h b e (y + 9 + le lg (y + 6) 2) (z - 1) x (nmS lg y) ix il r) := by
  obtain ⟨⟨w, en⟩, so, cs⟩ := hE
  cases E with
  | nil => exact absurd w (nxH_go h1)
  | cons q r =>
    obtain ⟨l2, n1, n2, n3⟩ := w
    obtain ⟨e1, e2, e3⟩ := nxH_one h1 n1
    obtain ⟨q1, q2⟩ := q
    dsimp only at e1 e2 n2 n3
    subst e1 e2 e3
    refine ⟨r, rfl, en (x, y) List.mem_cons_self, so.1, fun c => ?_, fun c => ?_⟩
    · exact ⟨(cs.1 c).1, ⟨n3, fun q hq => en q (List.mem_cons_of_mem _ hq)⟩, so.2, (cs.1 c).2⟩
    · exact ⟨⟨n3, fun q hq => en q (List.mem_cons_of_mem _ hq)⟩, so.2, cs.2 c⟩
theorem lk_cons {IR IS LS : List Int} {lg h : Int → Int} {b e a l hd : Int} {nm : List Int} {ix il x y z : Int} {r : List (Int × Int)} (h1 : nxH IS lg e a l hd x y z) (h2 : nxE lg e y) (en : enP IR IS lg h x y) (so : ordL nm (nmS lg y) < 0) (c1 : ldP (lf IR) b x y ix il → idP (lf IR) lg LS x y ix ∧ lkP IR IS LS lg h b e (y + 9 + le lg (y + 6) 2) (z - 1) x (nmS lg y) (ix + 13 + le (lf IR) (ix + 8) 4) (il - 1) r) (c2 : ¬ ldP (lf IR) b x y ix il → lkP IR IS LS lg h b e (y + 9 + le lg (y + 6) 2) (z - 1) x (nmS lg y) ix il r) : lkP IR IS LS lg h b e a l hd nm ix il ((x, y) :: r) := by
  have W : (wkL IS lg e (y + 9 + le lg (y + 6) 2) (z - 1) x r ∧ ∀ q ∈ r, enP IR IS lg h q.1 q.2) ∧ soL lg (nmS lg y) r := by
    by_cases c : ldP (lf IR) b x y ix il
    · exact ⟨(c1 c).2.1, (c1 c).2.2.1⟩
    · exact ⟨(c2 c).1, (c2 c).2.1⟩
  refine ⟨⟨⟨z, h1, h2, W.1.1⟩, fun q hq => ?_⟩, ⟨so, W.2⟩, fun c => ⟨(c1 c).1, (c1 c).2.2.2⟩, fun c => (c2 c).2.2⟩
  rcases List.mem_cons.1 hq with e | e
  · rw [e]
    exact en
  · exact W.1.2 q e
def loF (M M2 : FM) : Prop := (∀ c : Nat, c ≠ 100 → (c < 113 ∨ 116 < c) → M2 c = M c) ∧ M2 114 0 = M 114 0
theorem lo_trans {M M2 M3 : FM} (h : loF M M2) (h2 : loF M2 M3) : loF M M3 := ⟨fun c c1 c2 => (h2.1 c c1 c2).trans (h.1 c c1 c2), h2.2.trans h.2⟩
theorem lo_of {M M2 : FM} (h : ∀ c : Nat, c ≠ 100 → M2 c = M c) : loF M M2 := ⟨fun c c1 _ => h c c1, by rw [h 114 (by omega)]⟩
/-- the four counts behind a walk over E -/
def ctR (lg kd : Int → Int) (f : Int) (E : List (Int × Int)) (M M2 : FM) : Prop := M2 113 = tiL lg E (M 113) ∧ M2 114 = hoL lg f E (M 114) ∧ M2 115 = eaL f E (M 115) ∧ M2 116 = foL lg kd f E (M 116)
def kdF (IR : List Int) (pl : Int → Int) : Int → Int := fun c => kdT (le (lf IR) (pl c) 2)
def ixN (g : Int → Int) (p : Int) : Int := if le g p 2 ≤ 7 then 0 else le g (p + 32) 2
def liP (IR IS LR LS : List Int) (h : Int → Int) (p b e : Int) (E : List (Int × Int)) : Prop := opP LR LS (lf IR) p b e ∧ lkP IR IS LS (lf LR) h b e b 0 0 [] (p + fxT (le (lf IR) p 2)) (ixN (lf IR) p) E
section LISTING
variable {d nx zl : Nat} {K : Option TV → FH → Prop} {sh : Nat → Option Shp} {M : FM} {IR IS LR LS : List Int} {B ids F n : Int} {pl h : Int → Int}
theorem opP_r {g : Int → Int} {p b e : Int} (hs : shR LR LS) (h0 : opP LR LS g p b e) : 0 ≤ b ∧ b ≤ e ∧ e ≤ LR.length := by
  rcases h0 with q | ⟨q1, ⟨i, i1, i2, i3, i4, i5⟩, q3, q4⟩
  · omega
  · omega
theorem listingHolds_Y {f : Int} (hL : ltC M IR IS LR LS B ids F n pl h) (hf : 1 ≤ f ∧ f ≤ n) (hk : kdT (le (lf IR) (pl f) 2) = 1)
    (k0 : ∀ M2 : FM, loF M M2 → (∀ (b e : Int) (E : List (Int × Int)), ¬ liP IR IS LR LS h (pl f) b e E) → K (some (ti 0)) (sh, M2, nx, zl))
    (k1 : ∀ (M2 : FM) (b e : Int) (E : List (Int × Int)), loF M M2 → liP IR IS LR LS h (pl f) b e E → ctR (lf LR) (kdF IR pl) f E M M2 → K (some (ti 1)) (sh, M2, nx, zl)) : fm_Y (d + 5) 184 [.ref 100, .int (Int32.ofInt f)] (sh, M, nx, zl) K := by
  have lr := hL.2.2.2.2.2
  have nr := hL.1.2.1
  have n65 := hL.1.1.1.2.2.2
  have hB := hL.1.1.2.1.2.1
  obtain ⟨pr, hd0⟩ := nd_ok hB hL.2.1 hf.1 hf.2
  have hT := hd0.2.1
  have hfx := hd0.2.2.1
  have ed := kd_dir hT hk
  have iw0 : ixN (lf IR) (pl f) = 0 ∨ (0 < ixN (lf IR) (pl f) ∧ iwG (lf IR) IR.length (ixN (lf IR) (pl f)).toNat (pl f + fxT (le (lf IR) (pl f) 2)) ≠ -1) := by
    obtain ⟨a1, b1, c1, e1⟩ := hL.2.1.1 f hf.1 hf.2
    rcases iE_r (g := lf IR) (N := IR.length) (ids := ids) (F := F) hB a1 with z | z
    · omega
    · have eb : bodE (lf IR) IR.length B F (pl f) = if kdT (le (lf IR) (pl f) 2) = 1 then dirE (lf IR) IR.length (pl f) else if kdT (le (lf IR) (pl f) 2) = 2 then filE (lf IR) IR.length B F (pl f) else if kdT (le (lf IR) (pl f) 2) = 3 then lnkE (lf IR) IR.length (pl f) else othE (lf IR) (pl f) := rfl
      rw [if_pos hk] at eb
      have ne : dirE (lf IR) IR.length (pl f) ≠ -1 := by omega
      have l32 := le_nn (lf IR) 2 (pl f + 32)
      unfold ixN
      by_cases c : le (lf IR) (pl f) 2 ≤ 7
      · rw [if_pos c]
        exact Or.inl rfl
      · rw [if_neg c]
        by_cases c2 : le (lf IR) (pl f + 32) 2 = 0
        · exact Or.inl c2
        · refine Or.inr ⟨by omega, ?_⟩
          unfold dirE at ne
          rw [if_neg c] at ne
          split at ne
          · rw [show pl f + fxT (le (lf IR) (pl f) 2) = pl f + 40 by omega]
            exact ne
          · exact absurd rfl ne
  refine m184 [fx 100, ti f] ?_
  refine placeC_Y hL hf ?_
  refine indexesAt_Y hL.1.1 (by omega) hT ?_
  refine indexCount_Y hL.1.1 (by omega) (fun _ => by omega) hT ?_
  have exn : (if le (lf IR) (pl f) 2 ≤ 7 then 0 else le (lf IR) (pl f + 32) 2) = ixN (lf IR) (pl f) := rfl
  rw [exn]
  have lxn : 0 ≤ ixN (lf IR) (pl f) ∧ ixN (lf IR) (pl f) ≤ 65535 := by
    have a1 := le_nn (lf IR) 2 (pl f + 32)
    have a2 := le_lt2 (lf IR) (pl f + 32)
    unfold ixN
    split <;> omega
  obtain ⟨p, gp⟩ : ∃ p : Int, p = pl f := ⟨_, rfl⟩
  rw [← gp] at k0 k1 pr hd0 hT hfx ed iw0 lxn hk ⊢
  refine open_Y hL hf (by rw [← gp]; exact hk) (fun M2 o2 no => ?_) (fun M2 b e o2 hop hv => ?_)
  · refine ⟨by omega, fun z => absurd rfl z, fun _ => ⟨Or.inl rfl, k0 M2 (lo_of o2) (fun b e E q => ?_)⟩⟩
    rw [gp] at q
    exact no b e q.1
  rw [← gp] at hop
  have hr := opP_r hL.2.2.2.1.2.2.2.1 hop
  obtain ⟨v3, v4, v5, v7⟩ := hv
  have opu : ∀ b2 e2 : Int, opP LR LS (lf IR) p b2 e2 → b2 = b ∧ e2 = e := by
    intro b2 e2 q
    rcases hop with z | ⟨z1, z2, z3, z4⟩
    · rcases q with y | ⟨y1, y2, y3, y4⟩
      · omega
      · omega
    · rcases q with y | ⟨y1, y2, y3, y4⟩
      · omega
      · have := fl_one hL.2.2.2.1.2.2.2.1 z2 y2
        omega
  -- the walk
  have L : ∀ (G : Nat) (a l hd la ls ix il kk : Int) (M1 : FM) (y8 : Option TV), (e - a).toNat < G → ltC M1 IR IS LR LS B ids F n pl h → (M1 100 3 = b ∧ M1 100 4 = a ∧ M1 100 5 = e ∧ M1 100 7 = l) → (l ≠ 0 → hdC M1 IS (lf LR) hd ∧ b ≤ hd ∧ hd < e) → (b ≤ a ∧ a ≤ e) → (0 ≤ l ∧ l ≤ 256) → (0 ≤ la ∧ 0 ≤ ls ∧ la + ls ≤ LR.length) → (0 ≤ il ∧ il ≤ 65535) → (0 < il → (0 ≤ ix ∧ ix ≤ IR.length) ∧ iwG (lf IR) IR.length il.toNat ix ≠ -1) → (0 ≤ kk ∧ 9 * kk ≤ a) →
      (∀ M3 : FM, loF M1 M3 → (∀ E : List (Int × Int), ¬ lkP IR IS LS (lf LR) h b e a l hd (sl (lf LR) la ls.toNat) ix il E) → K (some (ti 0)) (sh, M3, nx, zl)) →
      (∀ (M3 : FM) (E : List (Int × Int)), loF M1 M3 → lkP IR IS LS (lf LR) h b e a l hd (sl (lf LR) la ls.toNat) ix il E → ctR (lf LR) (kdF IR pl) f E M1 M3 → K (some (ti 1)) (sh, M3, nx, zl)) →
      fm_X (d + 4) kd184 47 [some (fx 100), some (ti f), some (ti p), some (ti ix), some (ti il), some (ti la), some (ti ls), some (ti kk), y8] [] (sh, M1, nx, zl) K := by
    intro G
    induction G with
    | zero => intro a l hd la ls ix il kk M1 y8 q; omega
    | succ G ih =>
      intro a l hd la ls ix il kk M1 y8 q1 hL1 hv1 hh ha hl hla hil hix hkk c0 c1
      obtain ⟨w3, w4, w5, w7⟩ := hv1
      refine s184_47 (d + 4) K _ _ _ ?_
      refine ⟨by omega, fun w => by omega, fun w => ?_⟩
      refine next_Y (hd := hd) hL1 w4 w5 w7 (fun z => (hh z).1) (by omega) (by omega) hl (fun M3 no o3 s3 fin r3 => ?_) (fun M3 hd2 a2 l2 hx hE o3 s3 t3 hc3 => ?_)
      · -- the walk is at its end
        have F3 : loF M1 M3 := lo_of o3
        have E0 : ∀ E : List (Int × Int), lkP IR IS LS (lf LR) h b e a l hd (sl (lf LR) la ls.toNat) ix il E → (a = e ∧ l = 0) ∧ il = 0 := by
          intro E hE
          cases E with
          | nil => exact ⟨hE.1.1, hE.2.2⟩
          | cons q r =>
            obtain ⟨l2, n1, n2, n3⟩ := hE.1.1
            exact absurd n2 (no _ _ _ n1)
        have NO : ¬ ((a = e ∧ l = 0) ∧ il = 0) → K (some (ti 0)) (sh, M3, nx, zl) := fun q => c0 M3 F3 (fun E hE => q (E0 E hE))
        have Z : b184_223 (d + 4) (fW (d + 4) kd184 K) K [some (fx 100), some (ti f), some (ti p), some (ti ix), some (ti il), some (ti la), some (ti ls), some (ti kk), y8] [] (sh, M3, nx, zl) := by
          refine ⟨by omega, fun z1 => ⟨Or.inl rfl, NO (fun q => by have := fin.2 q.1; omega)⟩, fun z1 => ?_⟩
          refine ⟨by omega, fun z2 => ⟨Or.inl rfl, NO (fun q => by have := fin.2 q.1; omega)⟩, fun z2 => ?_⟩
          refine ⟨by omega, fun z3 => ⟨Or.inl rfl, NO (fun q => by omega)⟩, fun z3 => ⟨Or.inr rfl, c1 M3 [] F3 ⟨⟨fin.1 ⟨by omega, by omega⟩, fun q hq => by cases hq⟩, trivial, z3⟩ ⟨?_, ?_, ?_, ?_⟩⟩⟩
          · exact o3 113 (by omega)
          · exact o3 114 (by omega)
          · exact o3 115 (by omega)
          · exact o3 116 (by omega)
        exact ⟨by omega, fun _ => Z, fun z => absurd rfl z⟩
      -- an entry
      obtain ⟨x3, x4, x5, x7⟩ := s3
      obtain ⟨x10, x11, x12⟩ := t3
      have F3 : loF M1 M3 := lo_of o3
      have hL3 : ltC M3 IR IS LR LS B ids F n pl h := ltC_to hL1 (fun c cc => o3 c (by omega))
      have l6 := le_nn (lf LR) 2 (a2 + 6)
      have E1 := hE.1
      have E2 := hE.2
      have hda : (b ≤ hd2 ∧ hd2 < e) ∧ (a ≤ a2 ∧ 0 ≤ a2) ∧ (1 ≤ l2 ∧ l2 ≤ 256) := by
        rcases hx with z | z
        · have := hh z.1
          omega
        · have z1 := z.2.1.1
          have z2 := z.2.1.2.1
          have z3 := le_nn (lf LR) 4 a
          omega
      have NO : ∀ M5 : FM, loF M1 M5 → ¬ (enP IR IS (lf LR) h hd2 a2 ∧ ordL (sl (lf LR) la ls.toNat) (nmS (lf LR) a2) < 0) → K (some (ti 0)) (sh, M5, nx, zl) := by
        intro M5 F5 q
        refine c0 M5 F5 (fun E hE3 => ?_)
        obtain ⟨r, -, y1, y2, -⟩ := lk_inv hx hE3
        exact q ⟨y1, y2⟩
      refine ⟨by omega, fun z => by omega, fun _ => ?_⟩
      refine entryHolds_Y hL3 hc3 x12 x10 x11 (by omega) hE (by omega) (fun z hz => ?_)
      rcases hz.symm with ⟨z1, en⟩ | ⟨z1, en⟩
      · rw [z1]
        exact ⟨by omega, fun _ => ⟨Or.inl rfl, NO M3 F3 (fun q => en q.1)⟩, fun z => absurd rfl z⟩
      rw [z1]
      refine ⟨by omega, fun z => by omega, fun _ => ?_⟩
      refine order_I (pr109 sh).1.2.1.1.2 (pr109 sh).1.2.1.1.2 (by omega) (by omega) (by omega) (by omega) (by omega) (by omega) (by omega) (by omega) ?_
      have s1 : sl (M3 112) la ls.toNat = sl (lf LR) la ls.toNat := sl_agr hL3.2.2.2.2.1 (by omega) (by omega)
      have s2 : sl (M3 112) (M3 100 10) (M3 100 11).toNat = nmS (lf LR) a2 := by
        rw [x10, x11]
        exact sl_agr hL3.2.2.2.2.1 (by omega) (by omega)
      have orr := ordL_sl (M3 112) (M3 112) la (M3 100 10) ls.toNat (M3 100 11).toNat
      rw [s1, s2] at orr ⊢
      refine ⟨by omega, fun so => ?_, fun so => ⟨Or.inl rfl, NO M3 F3 (fun q => by have := q.2; omega)⟩⟩
      refine child_Y hL3 hc3 x12 (by omega) hE (by omega) (fun cr => ?_)
      have chr : 1 ≤ chd (lf LR) hd2 a2 ∧ chd (lf LR) hd2 a2 ≤ n := by
        obtain ⟨y, -, y2, -⟩ := en
        have := (hL.2.1.2 y y2.1).2.1
        omega
      refine count_Y hL3 hf chr (fun M4 o4 e115 e113 e114 e116 => ?_)
      have F4 : loF M1 M4 := ⟨fun c c1 c2 => (o4 c (by omega)).trans (o3 c c1), by
        rw [e114, ← o3 114 (by omega)]
        exact if_neg (by omega)⟩
      have v100 : M4 100 = M3 100 := o4 100 (by omega)
      have hL4 : ltC M4 IR IS LR LS B ids F n pl h := ltC_to hL3 (fun c cc => o4 c (by omega))
      rw [o3 115 (by omega)] at e115
      rw [o3 113 (by omega)] at e113
      rw [o3 114 (by omega)] at e114
      rw [o3 116 (by omega)] at e116
      have h6 := hc3.1
      have nms : sl (lf LR) (a2 + 8) (le (lf LR) (a2 + 6) 2 + 1).toNat = nmS (lf LR) a2 := rfl
      have hc4 : hdC M4 IS (lf LR) hd2 := by
        unfold hdC
        rw [v100]
        exact hc3
      have CT : ∀ (M5 : FM) (r : List (Int × Int)), ctR (lf LR) (kdF IR pl) f r M4 M5 → ctR (lf LR) (kdF IR pl) f ((hd2, a2) :: r) M1 M5 := by
        intro M5 r q
        obtain ⟨t1, t2, t3, t4⟩ := q
        rw [e113] at t1
        rw [e114] at t2
        rw [e115] at t3
        rw [e116] at t4
        exact ⟨t1, t2, t3, t4⟩
      have FT : ∀ M5 : FM, loF M4 M5 → loF M1 M5 := fun M5 q => lo_trans F4 q
      -- on with the next entry
      have GO : ∀ (ix2 il2 u : Int), (0 ≤ il2 ∧ il2 ≤ 65535) → (0 < il2 → (0 ≤ ix2 ∧ ix2 ≤ IR.length) ∧ iwG (lf IR) IR.length il2.toNat ix2 ≠ -1) → (∀ r : List (Int × Int), lkP IR IS LS (lf LR) h b e (a2 + 9 + le (lf LR) (a2 + 6) 2) (l2 - 1) hd2 (nmS (lf LR) a2) ix2 il2 r ↔ lkP IR IS LS (lf LR) h b e a l hd (sl (lf LR) la ls.toNat) ix il ((hd2, a2) :: r)) → b184_217 (d + 4) (fW (d + 4) kd184 K) K [some (fx 100), some (ti f), some (ti p), some (ti ix2), some (ti il2), some (ti (M4 100 10)), some (ti (M4 100 11)), some (ti kk), some (ti u)] [] (sh, M4, nx, zl) := by
        intro ix2 il2 u r1 r2 r3
        rw [v100, x10, x11]
        refine ih (a2 + 9 + le (lf LR) (a2 + 6) 2) (l2 - 1) hd2 (a2 + 8) (le (lf LR) (a2 + 6) 2 + 1) ix2 il2 (kk + 1) M4 _ (by omega) hL4 (by rw [v100]; exact ⟨x3.trans w3, x4, x5, x7⟩) (fun _ => ⟨hc4, hda.1⟩) (by omega) (by omega) (by omega) r1 r2 (by omega) (fun M5 F5 no => ?_) (fun M5 r F5 ok ct => ?_)
        · refine c0 M5 (FT M5 F5) (fun E hE3 => ?_)
          obtain ⟨r, y0, y1, y2, y3, y4⟩ := lk_inv hx hE3
          rw [y0] at hE3
          rw [nms] at no
          exact no r ((r3 r).2 hE3)
        · rw [nms] at ok
          exact c1 M5 _ (FT M5 F5) ((r3 r).1 ok) (CT M5 r ct)
      have LDN : ∀ u : Int, ¬ ldP (lf IR) b hd2 a2 ix il → b184_217 (d + 4) (fW (d + 4) kd184 K) K [some (fx 100), some (ti f), some (ti p), some (ti ix), some (ti il), some (ti (M4 100 10)), some (ti (M4 100 11)), some (ti kk), some (ti u)] [] (sh, M4, nx, zl) := by
        intro u nl
        refine GO ix il u hil hix (fun r => ⟨fun q => lk_cons hx hE en so (fun c => absurd c nl) (fun _ => q), fun q => ?_⟩)
        obtain ⟨r', y0, y1, y2, y3, y4⟩ := lk_inv hx q
        injection y0 with y5 y6
        rw [y6]
        exact y4 nl
      have B154 : ∀ u : Int, (u = 1 ∧ (a2 = hd2 + 12 ∧ b < hd2) ∨ u = 0 ∧ ¬ (a2 = hd2 + 12 ∧ b < hd2)) → b184_154 (d + 4) (fW (d + 4) kd184 K) K [some (fx 100), some (ti f), some (ti p), some (ti ix), some (ti il), some (ti (M4 100 10)), some (ti (M4 100 11)), some (ti kk), y8] [ti u] (sh, M4, nx, zl) := by
        intro u hu
        refine ⟨by omega, fun z => LDN u (fun q => by have := q.1; omega), fun z => ?_⟩
        refine ⟨by omega, fun z2 => LDN u (fun q => by have := q.2.1; omega), fun z2 => ?_⟩
        obtain ⟨hx1, hx2⟩ := hix (by omega)
        obtain ⟨m, gm⟩ : ∃ m : Nat, il.toNat = m + 1 := ⟨il.toNat - 1, by omega⟩
        have er : iwG (lf IR) IR.length (m + 1) ix = if ix + 12 ≤ IR.length ∧ le (lf IR) (ix + 8) 4 ≤ 255 ∧ ix + 13 + le (lf IR) (ix + 8) 4 ≤ IR.length then iwG (lf IR) IR.length m (ix + 13 + le (lf IR) (ix + 8) 4) else -1 := rfl
        rw [gm, er] at hx2
        have hroom : (ix + 12 ≤ IR.length ∧ le (lf IR) (ix + 8) 4 ≤ 255 ∧ ix + 13 + le (lf IR) (ix + 8) 4 ≤ IR.length) ∧ iwG (lf IR) IR.length m (ix + 13 + le (lf IR) (ix + 8) 4) ≠ -1 := by
          split at hx2
          · rename_i c
            exact ⟨c, hx2⟩
          · exact absurd rfl hx2
        have l8 := le_nn (lf IR) 4 (ix + 8)
        refine g4i_Y hL4.1.1 (by omega) (fun x x1 x2 x3' => ?_)
        refine unsig_Y (y := le (lf IR) ix 4) x2 (by omega) ?_
        have e46 : M4 100 6 = hd2 := by rw [v100]; exact h6
        have e43 : M4 100 3 = b := by rw [v100]; exact x3.trans w3
        refine ⟨by omega, ?_⟩
        refine ⟨by omega, fun z3 => LDN u (fun q => by have := q.2.2; omega), fun z3 => ?_⟩
        have LD : ldP (lf IR) b hd2 a2 ix il := ⟨by omega, by omega, by omega⟩
        refine indexHolds_Y (e := e) hL4 e46 (by rw [v100]; exact x10) (by rw [v100]; exact x11) (by omega) hE (by omega) (by omega) (by omega) (fun v hv => ?_)
        rcases hv.symm with ⟨v1, v2⟩ | ⟨v1, v2⟩
        · rw [v1]
          refine ⟨by omega, fun q => absurd rfl q, fun _ => ⟨Or.inl rfl, c0 M4 F4 (fun E hE3 => ?_)⟩⟩
          obtain ⟨r', y0, y1, y2, y3, y4⟩ := lk_inv hx hE3
          exact v2 (y3 LD).1
        · rw [v1]
          have en2 : le (lf LR) (a2 + 6) 2 = le (lf IR) (ix + 8) 4 := by
            have q := congrArg List.length v2.2
            unfold nmS at q
            rw [sl_len, sl_len] at q
            omega
          have ei : ix + (12 + M4 100 11) = ix + 13 + le (lf IR) (ix + 8) 4 := by
            rw [v100, x11]
            omega
          have T := GO (ix + 13 + le (lf IR) (ix + 8) 4) (il + -1) u (by omega) (fun _ => ⟨by omega, by rw [show (il + -1).toNat = m by omega]; exact hroom.2⟩) (fun r => ⟨fun q => lk_cons hx hE en so (fun _ => ⟨v2, q⟩) (fun c => absurd LD c), fun q => by
            obtain ⟨r', y0, y1, y2, y3, y4⟩ := lk_inv hx q
            injection y0 with y5 y6
            rw [y6]
            exact (y3 LD).2⟩)
          rw [← ei] at T
          exact ⟨by omega, fun _ => T, fun q => by omega⟩
      have e46 : M4 100 6 = hd2 := by rw [v100]; exact h6
      have e43 : M4 100 3 = b := by rw [v100]; exact x3.trans w3
      have e412 : M4 100 12 = a2 := by rw [v100]; exact x12
      refine ⟨by omega, fun z => B154 0 (by omega), fun z => ?_⟩
      exact ⟨by omega, fun z2 => B154 0 (by omega), fun z2 => B154 1 (by omega)⟩
  refine ⟨by omega, fun _ => ?_, fun z => by omega⟩
  refine L _ b 0 0 0 0 (p + fxT (le (lf IR) p 2)) (ixN (lf IR) p) 0 M2 _ (Nat.lt_succ_self _) (ltC_to hL (fun c cc => o2 c (by omega))) ⟨v3, v4, v5, v7⟩ (fun z => absurd rfl z) (by omega) (by omega) (by omega) lxn (fun q => ⟨by omega, by
      rcases iw0 with z | z
      · omega
      · exact z.2⟩) (by omega) (fun M3 F3 no => ?_) (fun M3 E F3 ok ct => ?_)
  · refine k0 M3 (lo_trans (lo_of o2) F3) (fun b2 e2 E q => ?_)
    obtain ⟨q1, q2⟩ := q
    obtain ⟨r1, r2⟩ := opu b2 e2 q1
    rw [r1, r2] at q2
    exact no E q2
  · refine k1 M3 b e E (lo_trans (lo_of o2) F3) ⟨hop, ok⟩ ?_
    obtain ⟨t1, t2, t3, t4⟩ := ct
    rw [o2 113 (by omega)] at t1
    rw [o2 114 (by omega)] at t2
    rw [o2 115 (by omega)] at t3
    rw [o2 116 (by omega)] at t4
    exact ⟨t1, t2, t3, t4⟩
end LISTING
