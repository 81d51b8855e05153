/-! PACKING: what was packed is read back: parts, a whole row -/
theorem tel_inj {i j : Int} (hi : 0 ≤ i ∧ i < 19) (hj : 0 ≤ j ∧ j < 19) (h : tel i = tel j) : i = j := by
  unfold tel at h
  repeat' split at h
  all_goals omega
theorem tlU_at (f : Int → Int) (p c : Int) (g : Int → Int) : ∀ (n i : Nat), i < n → n ≤ 19 → tlU f p c g n (tel i) = if (i : Int) < c then bv f (p + 3 * i) 3 else 0
  | 0, i, h, _ => by omega
  | n + 1, i, h, hn => by
    show ur (tlU f p c g n) (tel n) (if (n : Int) < c then bv f (p + 3 * n) 3 else 0) (tel i) = _
    by_cases e : i = n
    · rw [e, ur_at]
    · rw [ur_ne (fun q => e (by
        have := tel_inj (i := i) (j := n) (by omega) (by omega) q
        omega))]
      exact tlU_at f p c g n i (by omega) (by omega)
theorem sl_dec {g : Int → Int} {p : Int} {lt : Int → Int} : ∀ n : Nat, bAt g p (slL lt n) → ∀ i : Nat, i < n → bv g (p + 3 * i) 3 = lt (tel i) % 8
  | 0, _, i, hi => by omega
  | n + 1, h, i, hi => by
    have h0 : bAt g p (slL lt n ++ nbL (lt (tel n)) 3) := h
    by_cases e : i = n
    · have b := bAt_nb 3 (bAt_r h0)
      rw [slL_len] at b
      rw [e, show p + 3 * (n : Int) = p + ((3 * n : Nat) : Int) by omega, b]
      rfl
    · exact sl_dec n (bAt_l h0) i (by omega)
theorem tlS_lt {g : Int → Int} {p c : Int} {lt : Int → Int} (hc : c = tuL lt) (hb : bAt g p (slL lt (tuL lt).toNat)) (h7 : ∀ s : Int, 0 ≤ lt s ∧ lt s ≤ 7) {s : Int} (hs : 0 ≤ s ∧ s < 19) : tlS g p c s = lt s := by
  obtain ⟨i, i1, i2⟩ := tel_ex hs.1 hs.2
  rw [← i2]
  unfold tlS
  rw [tlU_at g p c _ 19 i i1 (by omega)]
  have l := h7 (tel i)
  have tr := tuL_r lt
  by_cases ci : (i : Int) < c
  · rw [if_pos ci, sl_dec _ hb i (by omega)]
    omega
  · rw [if_neg ci]
    by_cases z : 0 < lt (tel i)
    · have u := usL_ge (ls := fun i => lt (tel i)) (s := i) z 19 i1
      unfold tuL at hc
      omega
    · omega
theorem cyN_mem {T : List (Int × Int)} {t : Int × Int} (h : t ∈ T) : 0 < cyN T (tkY t) := by
  induction T with
  | nil => cases h
  | cons x r ih =>
    have b := cyN_b r (tkY t)
    show 0 < cyN r (tkY t) + (if tkY x = tkY t then 1 else 0)
    rcases List.mem_cons.1 h with e | e
    · rw [e, if_pos rfl]
      rw [e] at b
      omega
    · have := ih e
      split <;> omega
theorem cdN_mem {T : List (Int × Int)} {t : Int × Int} (h : t ∈ T) (h0 : t.1 ≠ 0) : 0 < cdN T (dsY t.2) := by
  induction T with
  | nil => cases h
  | cons x r ih =>
    have b := cdN_b r (dsY t.2)
    show 0 < cdN r (dsY t.2) + (if x.1 ≠ 0 ∧ dsY x.2 = dsY t.2 then 1 else 0)
    rcases List.mem_cons.1 h with e | e
    · rw [← e, if_pos ⟨h0, rfl⟩]
      omega
    · have := ih e
      split <;> omega
theorem cnT_mem {S : List (Int × Int)} {p : Int × Int} (h : p ∈ S) : 0 < cnT S p.1 := by
  induction S with
  | nil => cases h
  | cons x r ih =>
    have b := cnT_b r p.1
    show 0 < (if x.1 = p.1 then 1 else 0) + cnT r p.1
    rcases List.mem_cons.1 h with e | e
    · rw [← e, if_pos rfl]
      omega
    · have := ih e
      split <;> omega
theorem bv_8 (g : Int → Int) (x : Int) : bv g (8 * x) 8 = g x % 256 := by
  have e : ∀ k : Nat, k < 8 → bt g (8 * x + k) = g x / 2 ^ k % 2 := fun k hk => by
    unfold bt
    rw [show (8 * x + (k : Int)) / 8 = x by omega, show ((8 * x + (k : Int)) % 8).toNat = k by omega]
  show 0 + bt g (8 * x + ((0 : Nat) : Int)) * 2 ^ 0 + bt g (8 * x + ((1 : Nat) : Int)) * 2 ^ 1 + bt g (8 * x + ((2 : Nat) : Int)) * 2 ^ 2 + bt g (8 * x + ((3 : Nat) : Int)) * 2 ^ 3 + bt g (8 * x + ((4 : Nat) : Int)) * 2 ^ 4 + bt g (8 * x + ((5 : Nat) : Int)) * 2 ^ 5 + bt g (8 * x + ((6 : Nat) : Int)) * 2 ^ 6 + bt g (8 * x + ((7 : Nat) : Int)) * 2 ^ 7 = _
  rw [e 0 (by omega), e 1 (by omega), e 2 (by omega), e 3 (by omega), e 4 (by omega), e 5 (by omega), e 6 (by omega), e 7 (by omega)]
  rw [show (2 : Int) ^ 0 = 1 from rfl, show (2 : Int) ^ 1 = 2 from rfl, show (2 : Int) ^ 2 = 4 from rfl, show (2 : Int) ^ 3 = 8 from rfl, show (2 : Int) ^ 4 = 16 from rfl, show (2 : Int) ^ 5 = 32 from rfl, show (2 : Int) ^ 6 = 64 from rfl, show (2 : Int) ^ 7 = 128 from rfl]
  omega
theorem sbL_dec {g f : Int → Int} {x y : Int} : ∀ n : Nat, bAt g (8 * x) (sbL f y n) → sl g x n = sl f y n
  | 0, _ => rfl
  | n + 1, h => by
    have h0 : bAt g (8 * x) (sbL f y n ++ nbL (f (y + n) % 256) 8) := h
    have b := bAt_nb 8 (bAt_r h0)
    rw [sbL_len, show 8 * x + ((8 * n : Nat) : Int) = 8 * (x + n) by omega, bv_8, show (2 : Int) ^ 8 = 256 from rfl, Int.emod_emod_of_dvd _ (Int.dvd_refl _)] at b
    rw [sl_back, sl_back, sbL_dec n (bAt_l h0), b]
section DECP
variable {g : Int → Int} {E W mo : Int}
theorem dec_st {f : Int → Int} {y P last n : Int} {B o : List Int} {r : Int × List Int} (hP : P % 8 = 0) (hn : 0 ≤ n ∧ n ≤ 4096) (hb : bAt g P (padB (B ++ [last] ++ nbL 0 2) ++ nbL n 16 ++ nbL (65535 - n) 16 ++ sbL f y n.toNat)) (h : stS g E mo (P + B.length + 1 + 2) o = some r) : r = (P + (padB (B ++ [last] ++ nbL 0 2) ++ nbL n 16 ++ nbL (65535 - n) 16 ++ sbL f y n.toNat).length, o ++ sl f y n.toNat) := by
  have al : (B ++ [last] ++ nbL 0 2).length = B.length + 3 := by
    rw [List.length_append, List.length_append, nbL_len]
    rfl
  have pl := padB_len (B ++ [last] ++ nbL 0 2)
  rw [al] at pl
  obtain ⟨L, hL⟩ : ∃ L, L = (padB (B ++ [last] ++ nbL 0 2)).length := ⟨_, rfl⟩
  have b1 := bAt_nb 16 (bAt_r (bAt_l (bAt_l hb)))
  have b3 := bAt_r hb
  rw [List.length_append, List.length_append, nbL_len, nbL_len] at b3
  rw [← hL] at b1 b3 pl
  rw [show (2 : Int) ^ 16 = 65536 from rfl, show n % 65536 = n by omega] at b1
  obtain ⟨x, hx⟩ : ∃ x, P + (L : Int) = 8 * x := ⟨(P + L) / 8, by omega⟩
  have b4 : sl g (x + 4) n.toNat = sl f y n.toNat := by
    apply sbL_dec
    rw [show 8 * (x + 4) = P + ((L + 16 + 16 : Nat) : Int) by omega]
    exact b3
  have e1 : (P + (B.length : Int) + 1 + 2 + 7) / 8 = x := by omega
  unfold stS at h
  rw [e1, show x * 8 = P + L by omega, b1] at h
  by_cases c : P + (L : Int) + 32 ≤ E ∧ n + bv g (P + L + 16) 16 = 65535 ∧ P + L + 32 + 8 * n ≤ E ∧ (o.length : Int) + n ≤ mo
  · rw [if_pos c, b4] at h
    injection h with h
    rw [← h, List.length_append, List.length_append, List.length_append, nbL_len, nbL_len, sbL_len, ← hL]
    rw [show P + (L : Int) + 32 + 8 * n = P + ((L + 16 + 16 + 8 * n.toNat : Nat) : Int) by omega]
  · rw [if_neg c] at h
    cases h
/-- the symbols of a part, by fixed codes -/
theorem dec_fx {f : Int → Int} {a : Int} {b e G : Nat} {p : Int} {r : Int × List Int} (hbe : b ≤ e) (hb : bAt g p (tksL fxA 288 fxB 32 (tkS f a b e))) (h : smG g E fxA 288 fxB 32 W mo G p (sl f a b) = some r) : r = (p + (tksL fxA 288 fxB 32 (tkS f a b e)).length, sl f a e) := by
  have fa : ∀ s : Int, 0 < fxA s ∧ fxA s ≤ 15 := fun s => by
    unfold fxA
    repeat' split
    all_goals omega
  exact dec_tk (by decide +kernel) (by decide +kernel) (by omega) (by omega) (fa 256) ((e : Int) - b).toNat G b p r (by omega) hbe (fun t _ => ⟨fa _, fun _ => by
    unfold fxB
    omega⟩) hb h
theorem dec_dy {f : Int → Int} {a : Int} {b e G : Nat} {p0 : Int} {r : Int × List Int} {T : List (Int × Int)} (hT : T = tkS f a b e) (hbe : b ≤ e) (hb1 : bAt g p0 (hdL (ltT T) (seT T) (hTT T) (dTT T))) (hb2 : bAt g (p0 + (hdL (ltT T) (seT T) (hTT T) (dTT T)).length) (tksL (laT T) 288 (lbT T) 32 T)) (h : dyS g E W mo G (p0 + 2) (sl f a b) = some r) : r = (p0 + (hdL (ltT T) (seT T) (hTT T) (dTT T)).length + (tksL (laT T) 288 (lbT T) 32 T).length, sl f a e) := by
  have ok : ∀ t ∈ T, tkOK t := by
    rw [hT]
    exact tkS_ok (by omega)
  have hr := hTT_r ok
  have dr := dTT_r (T := T)
  have tr := tuL_r (ltT T)
  have lt7 : ∀ s : Int, 0 ≤ ltT T s ∧ ltT T s ≤ 7 := fun s => ltT_b s
  have HL := hdL_len (lt := ltT T) (fun s _ _ => by have := lt7 s; omega) (seT_ok ok) (hTT T) (dTT T)
  have TL := tesL_len (lt := ltT T) (fun s _ _ => by have := lt7 s; omega) (seT T) (seT_ok ok)
  have q0 : bAt g p0 (nbL 2 2 ++ (nbL (hTT T - 257) 5 ++ (nbL (dTT T - 1) 5 ++ (nbL (tuL (ltT T) - 4) 4 ++ (slL (ltT T) (tuL (ltT T)).toNat ++ tesL (ltT T) (seT T)))))) := hb1
  have q1 := bAt_r q0
  rw [nbL_len] at q1
  have q2 := bAt_r q1
  rw [nbL_len] at q2
  have q3 := bAt_r q2
  rw [nbL_len] at q3
  have q4 := bAt_r q3
  rw [nbL_len] at q4
  have q5 := bAt_r q4
  rw [slL_len] at q5
  have v1 := bAt_nb 5 (bAt_l q1)
  have v2 := bAt_nb 5 (bAt_l q2)
  have v3 := bAt_nb 4 (bAt_l q3)
  rw [show (2 : Int) ^ 5 = 32 from rfl] at v1 v2
  rw [show (2 : Int) ^ 4 = 16 from rfl] at v3
  have p2 : p0 + ((2 : Nat) : Int) = p0 + 2 := by omega
  have p3 : p0 + ((2 : Nat) : Int) + ((5 : Nat) : Int) = p0 + 2 + 5 := by omega
  have p4 : p0 + ((2 : Nat) : Int) + ((5 : Nat) : Int) + ((5 : Nat) : Int) = p0 + 2 + 10 := by omega
  have p5 : p0 + ((2 : Nat) : Int) + ((5 : Nat) : Int) + ((5 : Nat) : Int) + ((4 : Nat) : Int) = p0 + 2 + 14 := by omega
  rw [p2] at v1
  rw [p3] at v2
  rw [p4] at v3
  rw [p5] at q4 q5
  have eH : teH g (p0 + 2) = hTT T := by
    unfold teH
    omega
  have eD : teD g (p0 + 2) = dTT T := by
    unfold teD
    omega
  have eC : teC g (p0 + 2) = tuL (ltT T) := by
    unfold teC
    omega
  have hsy : ∀ p : Int, sy g E (tlS g (p0 + 2 + 14) (tuL (ltT T))) 19 p = sy g E (ltT T) 19 p := fun p => syG_ext (Nat.le_refl 19) (fun s hs => tlS_lt rfl (bAt_l q4) lt7 (by omega)) (fun s s1 s2 => by omega) 15 0 0 0 p
  unfold dyS at h
  rw [eH, eD, eC] at h
  by_cases k : teK g E (p0 + 2)
  · rw [cif_pos k, tlG_tl hsy] at h
    cases hq : tlG g E (ltT T) (hTT T + dTT T) G (p0 + 2 + 14 + 3 * tuL (ltT T)) 0 (fun _ => 0) with
    | none =>
      rw [hq] at h
      cases h
    | some R =>
      obtain ⟨p6, rr⟩ := R
      rw [hq] at h
      have hp : p0 + 2 + 14 + ((3 * (tuL (ltT T)).toNat : Nat) : Int) = p0 + 2 + 14 + 3 * tuL (ltT T) := by omega
      rw [hp] at q5
      have de := dec_te (g := g) (E := E) (lt := ltT T) (al := hTT T + dTT T) (row := hrow (laT T) (lbT T) (hTT T)) (R := (p6, rr)) (sumL_lg (by omega) big19) (hr_b ok) (hTT T + dTT T).toNat G (p0 + 2 + 14 + 3 * tuL (ltT T)) 0 (fun _ => 0) (by omega) (by omega) (by omega) (fun q hq2 => by
        have qo := (seT_ok ok q hq2).1
        have q8 := lt7 q.1
        refine ⟨?_, by omega⟩
        obtain ⟨s, hs⟩ : ∃ s : Nat, q.1 = s := ⟨q.1.toNat, by omega⟩
        rw [hs]
        refine (lgF_pos (by omega) big19 (by omega)).2 ?_
        rw [← hs]
        exact cnT_mem hq2) (fun j j0 j1 => by omega) q5 hq
      have d1 : p6 = p0 + 2 + 14 + 3 * tuL (ltT T) + (tesL (ltT T) (seT T)).length := de.1
      have d2 : ∀ j : Int, 0 ≤ j → j < hTT T + dTT T → rr j = hrow (laT T) (lbT T) (hTT T) j := de.2
      have h2 : cif (0 < rr 256 ∧ okL rr (hTT T).toNat 0 ∧ okL (fun s => rr (hTT T + s)) (dTT T).toNat 1) (smG g E rr (hTT T).toNat (fun s => rr (hTT T + s)) (dTT T).toNat W mo G p6 (sl f a b)) none = some r := h
      by_cases k2 : 0 < rr 256 ∧ okL rr (hTT T).toNat 0 ∧ okL (fun s => rr (hTT T + s)) (dTT T).toNat 1
      · rw [cif_pos k2] at h2
        have ha : ∀ p : Int, sy g E (laT T) 288 p = sy g E rr (hTT T).toNat p := fun p => syG_ext (n := (hTT T).toNat) (n2 := 288) (by omega) (fun s hs => by
          rw [d2 s (by omega) (by omega)]
          unfold hrow
          rw [if_pos (by omega)]) (fun s s1 s2 => by
          by_cases c : s < 286
          · have b0 := laT_b (T := T) s
            by_cases z : 0 < laT T s
            · have u := usL_ge (ls := laT T) (s := s) z 286 c
              have u2 : hTT T = usL (laT T) 286 := rfl
              omega
            · omega
          · exact laT_z ok (by omega) s2) 15 0 0 0 p
        have hb : ∀ p : Int, sy g E (lbT T) 32 p = sy g E (fun s => rr (hTT T + s)) (dTT T).toNat p := fun p => syG_ext (n := (dTT T).toNat) (n2 := 32) (by omega) (fun s hs => by
          show lbT T s = rr (hTT T + s)
          rw [d2 _ (by omega) (by omega)]
          unfold hrow
          rw [if_neg (by omega), show hTT T + (s : Int) - hTT T = s by omega]) (fun s s1 s2 => by
          by_cases c : s < 30
          · have b0 := lbT_b (T := T) s
            by_cases z : 0 < lbT T s
            · have u := usL_ge (ls := lbT T) (s := s) z 30 c
              have u2 : dTT T = max 1 (usL (lbT T) 30) := rfl
              omega
            · omega
          · exact lbT_z ok (by omega) s2) 15 0 0 0 p
        rw [← smG_ext ha hb] at h2
        have tt : tkG f a e ((e : Int) - b).toNat b = T := hT.symm
        have pe : p0 + ((hdL (ltT T) (seT T) (hTT T) (dTT T)).length : Int) = p6 := by omega
        have PL : ∀ s : Int, 0 ≤ s → s < 288 → 0 < cyS T s → 0 < laT T s ∧ laT T s ≤ 15 := fun s s0 s1 s2 => by
          refine ⟨?_, (laT_b s).2⟩
          obtain ⟨w, rfl⟩ : ∃ w : Nat, s = w := ⟨s.toNat, by omega⟩
          exact (lgF_pos (by omega) big288 (by omega)).2 s2
        have := dec_tk (g := g) (E := E) (la := laT T) (lb := lbT T) (na := 288) (nb := 32) (W := W) (mo := mo) (f := f) (a := a) (e := e) (sumL_lg (by omega) big288) (sumL_lg (by omega) big32) (by omega) (by omega) (PL 256 (by omega) (by omega) (by
          have := cyN_b T 256
          unfold cyS
          rw [if_pos rfl]
          omega)) ((e : Int) - b).toNat G b p6 r (by omega) hbe (by
          rw [tt]
          intro t ht
          have yr := tkY_r (ok t ht)
          refine ⟨PL _ yr.1 (by omega) ?_, fun t0 => ?_⟩
          · have m := cyN_mem ht
            unfold cyS
            split <;> omega
          · refine ⟨?_, (lbT_b _).2⟩
            have o2 := ok t ht
            have dy : 0 ≤ dsY t.2 ∧ dsY t.2 ≤ 29 := by
              rcases o2 with o2 | o2
              · exact absurd o2.1 t0
              · exact dsY_r o2.2
            obtain ⟨w, hw⟩ : ∃ w : Nat, dsY t.2 = w := ⟨(dsY t.2).toNat, by omega⟩
            rw [hw]
            refine (lgF_pos (by omega) big32 (by omega)).2 ?_
            rw [← hw]
            exact cdN_mem ht t0) (by
          rw [tt, ← pe]
          exact hb2) h2
        rw [tt] at this
        rw [this, pe]
      · rw [cif_neg k2] at h2
        cases h2
  · rw [cif_neg k] at h
    cases h
/-- a part -/
theorem dec_bk {f : Int → Int} {a : Int} {b e G : Nat} {last P : Int} {B : List Int} {r : Int × List Int} (hP : P % 8 = 0) (hbe : b ≤ e ∧ e ≤ b + 4096) (hb : bAt g P (ptS B f a b e last)) (h : bkS g E W mo G (P + B.length + 1) (sl f a b) = some r) : r = (P + (ptS B f a b e last).length, sl f a e) ∧ bt g (P + B.length) = last := by
  have LA : bAt g P (B ++ [last]) → bt g (P + B.length) = last := fun z => (bAt_c (bAt_r z)).1
  have bl : ((B ++ [last]).length : Int) = B.length + 1 := by
    rw [List.length_append]
    rfl
  unfold ptS at hb ⊢
  unfold bkS at h
  by_cases c1 : stT B.length ((e : Int) - b) ≤ fxT2 (tkS f a b e) ∧ stT B.length ((e : Int) - b) ≤ mdT (tkS f a b e)
  · rw [if_pos c1] at hb ⊢
    have b1 := bAt_l (bAt_l (bAt_l hb))
    have b2 : bAt g P (B ++ [last] ++ nbL 0 2) := by
      unfold padB at b1
      exact bAt_l b1
    have b3 := bAt_nb 2 (bAt_r b2)
    rw [bl, show (0 : Int) % 2 ^ 2 = 0 from rfl, show P + ((B.length : Int) + 1) = P + B.length + 1 by omega] at b3
    rw [if_pos b3] at h
    have := dec_st hP (by omega) hb h
    refine ⟨?_, LA (bAt_l b2)⟩
    rw [this]
    have es : sl f a b ++ sl f (a + b) ((e : Int) - b).toNat = sl f a e := by
      rw [← sl_add, show b + ((e : Int) - b).toNat = e by omega]
    rw [es]
  · rw [if_neg c1] at hb ⊢
    by_cases c2 : fxT2 (tkS f a b e) ≤ mdT (tkS f a b e)
    · rw [if_pos c2] at hb ⊢
      have b2 := bAt_l hb
      have b3 := bAt_nb 2 (bAt_r b2)
      rw [bl, show (1 : Int) % 2 ^ 2 = 1 from rfl, show P + ((B.length : Int) + 1) = P + B.length + 1 by omega] at b3
      rw [if_neg (by omega), if_pos b3] at h
      have b4 := bAt_r hb
      rw [List.length_append, nbL_len, show P + (((B ++ [last]).length + 2 : Nat) : Int) = P + B.length + 1 + 2 by omega] at b4
      have := dec_fx hbe.1 b4 h
      refine ⟨?_, LA (bAt_l b2)⟩
      rw [this, List.length_append, List.length_append, nbL_len]
      rw [show P + (B.length : Int) + 1 + 2 + ((tksL fxA 288 fxB 32 (tkS f a b e)).length : Int) = P + (((B ++ [last]).length + 2 + (tksL fxA 288 fxB 32 (tkS f a b e)).length : Nat) : Int) by omega]
    · rw [if_neg c2] at hb ⊢
      have b2 := bAt_l hb
      have b3 := bAt_r b2
      rw [bl, show P + ((B.length : Int) + 1) = P + B.length + 1 by omega] at b3
      have b5 := bAt_nb 2 (bAt_l (A := nbL 2 2) b3)
      rw [show (2 : Int) % 2 ^ 2 = 2 from rfl] at b5
      rw [if_neg (by omega), if_neg (by omega), if_pos b5] at h
      have b4 := bAt_r hb
      rw [List.length_append, show P + (((B ++ [last]).length + (hdL (ltT (tkS f a b e)) (seT (tkS f a b e)) (hTT (tkS f a b e)) (dTT (tkS f a b e))).length : Nat) : Int) = P + B.length + 1 + (hdL (ltT (tkS f a b e)) (seT (tkS f a b e)) (hTT (tkS f a b e)) (dTT (tkS f a b e))).length by omega] at b4
      have := dec_dy rfl hbe.1 b3 b4 h
      refine ⟨?_, LA (bAt_l b2)⟩
      rw [this, List.length_append, List.length_append]
      rw [show P + (B.length : Int) + 1 + ((hdL (ltT (tkS f a b e)) (seT (tkS f a b e)) (hTT (tkS f a b e)) (dTT (tkS f a b e))).length : Int) + ((tksL (laT (tkS f a b e)) 288 (lbT (tkS f a b e)) 32 (tkS f a b e)).length : Int) = P + (((B ++ [last]).length + (hdL (ltT (tkS f a b e)) (seT (tkS f a b e)) (hTT (tkS f a b e)) (dTT (tkS f a b e))).length + (tksL (laT (tkS f a b e)) 288 (lbT (tkS f a b e)) 32 (tkS f a b e)).length : Nat) : Int) by omega]
theorem ptS_pre (B : List Int) (f : Int → Int) (a b e last : Int) : ∃ X : List Int, ptS B f a b e last = B ++ X := by
  unfold ptS
  split
  · unfold padB
    rw [List.append_assoc, List.append_assoc, List.append_assoc, List.append_assoc, List.append_assoc]
    exact ⟨_, rfl⟩
  · split
    · rw [List.append_assoc, List.append_assoc]
      exact ⟨_, rfl⟩
    · rw [List.append_assoc, List.append_assoc]
      exact ⟨_, rfl⟩
theorem pgG_pre (f : Int → Int) (a n : Int) : ∀ (k : Nat) (B : List Int) (b : Int), ∃ X : List Int, pgG f a n k B b = B ++ X
  | 0, B, b => ⟨[], (List.append_nil B).symm⟩
  | k + 1, B, b => by
    unfold pgG
    split
    · obtain ⟨X, hX⟩ := ptS_pre B f a b (b + 4096) 0
      obtain ⟨Y, hY⟩ := pgG_pre f a n k (ptS B f a b (b + 4096) 0) (b + 4096)
      exact ⟨X ++ Y, by rw [hY, hX, List.append_assoc]⟩
    · exact ptS_pre B f a b n 1
theorem blG_s {G k : Nat} {p : Int} {o : List Int} {r : Int × List Int} (h : blG g E W mo G (k + 1) p o = some r) : ∃ q : Int × List Int, bkS g E W mo G (p + 1) o = some q ∧ (bt g p = 1 → r = q) ∧ (bt g p ≠ 1 → blG g E W mo G k q.1 q.2 = some r) := by
  have e1 : bv g p 1 = bt g p := by
    show 0 + bt g (p + ((0 : Nat) : Int)) * 2 ^ 0 = bt g p
    rw [show p + ((0 : Nat) : Int) = p by omega, show (2 : Int) ^ 0 = 1 from rfl]
    omega
  have h2 : (if p + 3 ≤ E then (match bkS g E W mo G (p + 1) o with
    | none => none
    | some (p2, o2) => if bv g p 1 = 1 then some (p2, o2) else blG g E W mo G k p2 o2) else none) = some r := h
  by_cases c : p + 3 ≤ E
  · rw [if_pos c] at h2
    cases hq : bkS g E W mo G (p + 1) o with
    | none =>
      rw [hq] at h2
      cases h2
    | some q =>
      obtain ⟨p2, o2⟩ := q
      rw [hq] at h2
      have h3 : (if bv g p 1 = 1 then some (p2, o2) else blG g E W mo G k p2 o2) = some r := h2
      rw [e1] at h3
      refine ⟨(p2, o2), rfl, fun z => ?_, fun z => ?_⟩
      · rw [if_pos z] at h3
        injection h3 with h3
        exact h3.symm
      · rw [if_neg z] at h3
        exact h3
  · rw [if_neg c] at h2
    cases h2
theorem dec_bl {f : Int → Int} {a P : Int} {n G : Nat} (hP : P % 8 = 0) : ∀ (k G2 : Nat) (B : List Int) (b : Nat) (r : Int × List Int), b < n → n - b ≤ 4096 * k → bAt g P (pgG f a n k B b) → blG g E W mo G G2 (P + B.length) (sl f a b) = some r → r = (P + (pgG f a n k B b).length, sl f a n) := by
  intro k
  induction k with
  | zero =>
    intro G2 B b r h1 h2
    omega
  | succ k ih =>
    intro G2 B b r h1 h2 hb h
    cases G2 with
    | zero => cases h
    | succ G2 =>
      obtain ⟨q, w1, w2, w3⟩ := blG_s h
      by_cases c : (b : Int) + 4096 < n
      · have ep : pgG f a n (k + 1) B b = pgG f a n k (ptS B f a b ((b + 4096 : Nat) : Int) 0) ((b + 4096 : Nat) : Int) := if_pos c
        rw [ep] at hb ⊢
        obtain ⟨X, hX⟩ := pgG_pre f a n k (ptS B f a b ((b + 4096 : Nat) : Int) 0) ((b + 4096 : Nat) : Int)
        have hb1 := hb
        rw [hX] at hb1
        have d := dec_bk hP (by omega) (bAt_l hb1) w1
        have w4 := w3 (by rw [d.2]; omega)
        rw [d.1] at w4
        exact ih G2 _ (b + 4096) r (by omega) (by omega) hb w4
      · have ep : pgG f a n (k + 1) B b = ptS B f a b n 1 := if_neg c
        rw [ep] at hb ⊢
        have d := dec_bk hP (by omega) hb w1
        rw [w2 d.2, d.1]
/-- a packed row is read back -/
theorem dec_un {f : Int → Int} {a q m : Int} {n : Nat} {o : List Int} (hn : 1 ≤ n ∧ n ≤ 65536) (hb : bAt g (8 * q) (pkS f a n)) (h : unS g q m mo = some o) : o = sl f a n := by
  unfold unS at h
  unfold pkS padB pkB at hb
  have b1 := bAt_l (bAt_l hb)
  by_cases c : 2 ≤ m ∧ (256 * (g q % 256) + g (q + 1) % 256) % 31 = 0 ∧ g q % 256 % 16 = 8 ∧ g q % 256 / 16 ≤ 7 ∧ g (q + 1) % 256 / 32 % 2 = 0
  · rw [if_pos c] at h
    have el : ((nbL 120 8 ++ nbL 156 8).length : Int) = 16 := by
      rw [List.length_append, nbL_len, nbL_len]
      rfl
    cases hq : blG g (8 * (q + m)) (256 * 2 ^ (g q % 256 / 16).toNat) mo ((8 * (q + m)).toNat + 1) ((8 * (q + m)).toNat + 1) (8 * (q + 2)) [] with
    | none =>
      rw [hq] at h
      cases h
    | some r =>
      obtain ⟨p, o2⟩ := r
      have d := dec_bl (P := 8 * q) (n := n) (by omega) 17 _ (nbL 120 8 ++ nbL 156 8) 0 (p, o2) (by omega) (by omega) b1 (by
        rw [el, show 8 * q + 16 = 8 * (q + 2) by omega]
        exact hq)
      rw [hq] at h
      have h2 : (if (p + 7) / 8 * 8 = 8 * (q + m) - 32 ∧ tld g ((p + 7) / 8) = adV o2 then some o2 else none) = some o := h
      injection d with d1 d2
      by_cases c2 : (p + 7) / 8 * 8 = 8 * (q + m) - 32 ∧ tld g ((p + 7) / 8) = adV o2
      · rw [if_pos c2] at h2
        injection h2 with h2
        rw [← h2]
        exact d2
      · rw [if_neg c2] at h2
        cases h2
  · rw [if_neg c] at h
    cases h
end DECP
theorem blV_bit : ∀ (L : List Int) (k : Nat) (x : Int), bsP L → L[k]? = some x → blV L / 2 ^ k % 2 = x
  | [], k, x, _, h => by cases h
  | a :: L, 0, x, hb, h => by
    have a1 := hb a (List.mem_cons_self ..)
    have e : some a = some x := h
    injection e with e
    show (a + 2 * blV L) / 2 ^ 0 % 2 = x
    rw [show (2 : Int) ^ 0 = 1 from rfl, Int.ediv_one, ← e]
    rcases a1 with a1 | a1 <;> omega
  | a :: L, k + 1, x, hb, h => by
    have a1 := hb a (List.mem_cons_self ..)
    have ih := blV_bit L k x (fun y hy => hb y (List.mem_cons_of_mem _ hy)) h
    show (a + 2 * blV L) / 2 ^ (k + 1) % 2 = x
    rw [Int.pow_succ, Int.mul_comm (2 ^ k) 2, ← Int.ediv_ediv_of_nonneg (by omega), show (a + 2 * blV L) / 2 = blV L by rcases a1 with a1 | a1 <;> omega]
    exact ih
/-- bytes that are the bytes of bits -/
theorem by_dec {g : Int → Int} {q : Int} {B : List Int} {m : Nat} (hB : bsP B) (hl : B.length ≤ 8 * m) (h : ∀ i : Nat, i < m → g (q + i) % 256 = byB B i) : bAt g (8 * q) B := by
  intro i x hx
  obtain ⟨hi, _⟩ := List.getElem?_eq_some_iff.1 hx
  have h1 := h (i / 8) (by omega)
  have br := byB_r hB (i / 8)
  unfold bt
  rw [show (8 * q + (i : Int)) / 8 = q + ((i / 8 : Nat) : Int) by omega, show ((8 * q + (i : Int)) % 8).toNat = i % 8 by omega]
  rw [byte_mod (g (q + ((i / 8 : Nat) : Int))) (byB B (i / 8)) (by omega) (i % 8) (by omega)]
  unfold byB
  refine blV_bit _ (i % 8) x (bsP_take (bsP_drop hB _) _) ?_
  rw [List.getElem?_take_of_lt (by omega), List.getElem?_drop, show 8 * (i / 8) + i % 8 = i by omega]
  exact hx
