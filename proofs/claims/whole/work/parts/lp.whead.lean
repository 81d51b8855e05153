/-! PACKING: a part's head, and a stored part; the class -/
/-- the first lengths of tellers, in the tellers' order -/
def slL (lt : Int → Int) : Nat → List Int
  | 0 => []
  | i + 1 => slL lt i ++ nbL (lt (tel i)) 3
/-- the tellers themselves -/
def tesL (lt : Int → Int) : List (Int × Int) → List Int
  | [] => []
  | p :: r => cbL lt 19 p.1 ++ (nbL p.2 (tbE p.1).toNat ++ tesL lt r)
/-- bytes as they are -/
def sbL (f : Int → Int) (a : Int) : Nat → List Int
  | 0 => []
  | n + 1 => sbL f a n ++ nbL (f (a + n) % 256) 8
def hdL (lt : Int → Int) (S : List (Int × Int)) (h dd : Int) : List Int := nbL 2 2 ++ (nbL (h - 257) 5 ++ (nbL (dd - 1) 5 ++ (nbL (tuL lt - 4) 4 ++ (slL lt (tuL lt).toNat ++ tesL lt S))))
theorem slL_len (lt : Int → Int) : ∀ n : Nat, (slL lt n).length = 3 * n
  | 0 => rfl
  | n + 1 => by
    show (slL lt n ++ nbL (lt (tel n)) 3).length = 3 * (n + 1)
    rw [List.length_append, slL_len lt n, nbL_len]
    omega
theorem sbL_len (f : Int → Int) (a : Int) : ∀ n : Nat, (sbL f a n).length = 8 * n
  | 0 => rfl
  | n + 1 => by
    show (sbL f a n ++ nbL (f (a + n) % 256) 8).length = 8 * (n + 1)
    rw [List.length_append, sbL_len f a n, nbL_len]
    omega
theorem sbL_bs (f : Int → Int) (a : Int) : ∀ n : Nat, bsP (sbL f a n)
  | 0 => fun x hx => by cases hx
  | n + 1 => bsP_app (sbL_bs f a n) (nbL_bs _ _)
theorem tesL_len {lt : Int → Int} (ha : ∀ s : Int, 0 ≤ s → s < 19 → 0 ≤ lt s ∧ lt s ≤ 15) : ∀ S : List (Int × Int), (∀ p ∈ S, ttOK p) → ((tesL lt S).length : Int) = tlB2 lt S
  | [], _ => rfl
  | p :: r, h => by
    have ih := tesL_len ha r (fun q hq => h q (List.mem_cons_of_mem _ hq))
    have hp := h p (List.mem_cons_self ..)
    have c := cbL_len lt 19 (s := p.1) (ha p.1 hp.1.1 (by have := hp.1.2; omega)).1
    have e := tbE_r p.1
    show ((cbL lt 19 p.1 ++ (nbL p.2 (tbE p.1).toNat ++ tesL lt r)).length : Int) = lt p.1 + tbE p.1 + tlB2 lt r
    rw [List.length_append, List.length_append, nbL_len]
    omega
theorem hdL_len {lt : Int → Int} (ha : ∀ s : Int, 0 ≤ s → s < 19 → 0 ≤ lt s ∧ lt s ≤ 15) {S : List (Int × Int)} (hS : ∀ p ∈ S, ttOK p) (h dd : Int) : ((hdL lt S h dd).length : Int) = 16 + 3 * tuL lt + tlB2 lt S := by
  have t := tesL_len ha S hS
  have u := tuL_r lt
  unfold hdL
  rw [List.length_append, List.length_append, List.length_append, List.length_append, List.length_append, nbL_len, nbL_len, nbL_len, nbL_len, slL_len]
  omega
theorem nbL_0 : ∀ n : Nat, nbL 0 n = List.replicate n 0
  | 0 => rfl
  | n + 1 => by
    show nbL 0 n ++ [0 / 2 ^ n % 2] = List.replicate (n + 1) 0
    rw [nbL_0 n, Int.zero_ediv, List.replicate_succ']
    rfl
theorem blV_drop8 {A : List Int} {n i : Nat} {f : Int → Int} {a : Int} (h8 : A.length % 8 = 0) (hi : i < n) : byB (A ++ sbL f a n) (A.length / 8 + i) = f (a + i) % 256 := by
  have key : ∀ n : Nat, i < n → (sbL f a n).drop (8 * i) = nbL (f (a + i) % 256) 8 ++ ((sbL f a n).drop (8 * i + 8)) := by
    intro n
    induction n with
    | zero => intro h; omega
    | succ n ih =>
      intro h
      have e : sbL f a (n + 1) = sbL f a n ++ nbL (f (a + n) % 256) 8 := rfl
      have ln := sbL_len f a n
      by_cases c : i = n
      · have d1 : (sbL f a n).drop (8 * n) = [] := List.drop_eq_nil_of_le (by omega)
        have d2 : (sbL f a n).drop (8 * n + 8) = [] := List.drop_eq_nil_of_le (by omega)
        have d3 : (nbL (f (a + n) % 256) 8).drop 8 = [] := List.drop_eq_nil_of_le (by rw [nbL_len]; omega)
        rw [e, c, List.drop_append, List.drop_append, d1, d2, show 8 * n - (sbL f a n).length = 0 by omega, show 8 * n + 8 - (sbL f a n).length = 8 by omega, List.drop_zero, d3]
        rw [List.nil_append, List.append_nil, List.append_nil]
      · rw [e, List.drop_append_of_le_length (by omega), List.drop_append_of_le_length (by omega), ih (by omega), List.append_assoc]
  unfold byB
  rw [show 8 * (A.length / 8 + i) = A.length + 8 * i by omega, List.drop_append, List.drop_eq_nil_of_le (by omega), show A.length + 8 * i - A.length = 8 * i by omega, List.nil_append, key n hi, List.take_append_of_le_length (by rw [nbL_len]; omega), List.take_of_length_le (by rw [nbL_len]; omega), blV_nb]
  have : (2 : Int) ^ 8 = 256 := by decide
  rw [this]
  omega
section WHEAD
variable {d nx zl : Nat} {K : Option TV → FH → Prop} {sh : Nat → Option Shp} {M : FM} {B : List Int} {S : List (Int × Int)} {la lb lt : Int → Int}
theorem putLengths_Y {h dd : Int} (hA : ∀ s : Nat, s < 286 → M 33 s = la s ∧ 0 ≤ la s ∧ la s ≤ 15) (hBb : ∀ s : Nat, s < 30 → M 40 s = lb s ∧ 0 ≤ lb s ∧ lb s ≤ 15) (hT : cdT M 47 48 lt 19) (h7 : ∀ s : Int, 0 ≤ s → s < 19 → lt s ≤ 7) (hS : tdV M S) (hSo : ∀ p ∈ S, ttOK p) (hSl : S.length ≤ 320) (h1 : ∀ i : Int, 0 ≤ i → i < 19 → M 1 i = tel i) (hh : h = usL la 286 ∧ 257 ≤ h) (hd : dd = max 1 (usL lb 30)) (hB : pbV M B) (hbound : (B.length : Int) + (16 + 3 * tuL lt + tlB2 lt S) ≤ 526336)
    (k : ∀ M2 : FM, pbF M M2 → pbV M2 (B ++ hdL lt S h dd) → K none (sh, M2, nx, zl)) : fm_Y (d + 3) 99 [.ref 22] (sh, M, nx, zl) K := by
  have ha : ∀ s : Int, 0 ≤ s → s < 19 → 0 ≤ lt s ∧ lt s ≤ 15 := fun s s0 s1 => (cdT_at hT s0 (by omega)).2.1
  have tu := tuL_r lt
  have ua := usL_b la 286
  have ub := usL_b lb 30
  have tl := tesL_len ha S hSo
  refine m99 [fx 22] ?_
  refine tellersUsed_Y (lt := lt) h1 (fun s hs => (hT s hs).1) ?_
  refine putBits_Y (n := 2) hB ⟨by decide, by decide⟩ (by omega) (by omega) (fun M1 F1 b1 => ?_)
  refine used_Y (ls := la) cq29 (fun s hs => by rw [F1.1 33 (by omega) (by omega) (by omega)]; exact hA s hs) ?_
  rw [← hh.1]
  have p5 : (2 : Int) ^ 5 = 32 := by decide
  have p4 : (2 : Int) ^ 4 = 16 := by decide
  have p3 : (2 : Int) ^ 3 = 8 := by decide
  refine putBits_Y (n := 5) b1 (by rw [p5]; omega) (by omega) (by rw [List.length_append, nbL_len]; omega) (fun M2 F2 b2 => ?_)
  have F12 := pbF_t F1 F2
  refine used_Y (ls := lb) cq36 (fun s hs => by rw [F12.1 40 (by omega) (by omega) (by omega)]; exact hBb s hs) ?_
  refine ⟨by omega, ?_⟩
  have T2 : ∀ x : Int, x = dd - 1 → fm_Y (d + 2) 90 [.ref 22, .int (Int32.ofInt x), .int (Int32.ofInt (5 : Nat))] (sh, M2, nx, zl) (fun w H => w = none ∧ b99_45 (d + 2) (fW (d + 2) kd99 K) K [some (fx 22), some (ti (tuL lt)), none, none] [] H) := by
    intro x hx
    rw [hx]
    refine putBits_Y (n := 5) b2 (by rw [p5]; omega) (by omega) (by rw [List.length_append, List.length_append, nbL_len, nbL_len]; omega) (fun M3 F3 b3 => ⟨rfl, ?_⟩)
    have F13 := pbF_t F12 F3
    refine putBits_Y (n := 4) b3 (by rw [p4]; omega) (by omega) (by rw [List.length_append, List.length_append, List.length_append, nbL_len, nbL_len, nbL_len]; omega) (fun M4 F4 b4 => ?_)
    have F14 := pbF_t F13 F4
    obtain ⟨C, gC⟩ : ∃ C : List Int, C = B ++ nbL 2 2 ++ nbL (h - 257) 5 ++ nbL (dd - 1) 5 ++ nbL (tuL lt - 4) 4 := ⟨_, rfl⟩
    rw [← gC] at b4
    have lC : C.length = B.length + 16 := by
      rw [gC, List.length_append, List.length_append, List.length_append, List.length_append, nbL_len, nbL_len, nbL_len, nbL_len]
    have eH : B ++ hdL lt S h dd = C ++ (slL lt (tuL lt).toNat ++ tesL lt S) := by
      unfold hdL
      rw [gC]
      simp only [List.append_assoc]
    -- the tellers
    have L86 : ∀ (G i : Nat) (ii : Int) (pre : List Int) (M5 : FM) (y3 : Option TV), ((S.length : Int) - ii).toNat < G → ii = i → i ≤ S.length → pbF M M5 → pbV M5 pre → pre ++ tesL lt (S.drop i) = B ++ hdL lt S h dd → fm_X (d + 2) kd99 86 [some (fx 22), some (ti (tuL lt)), some (ti ii), y3] [] (sh, M5, nx, zl) K := by
      intro G
      induction G with
      | zero => intro i ii pre M5 y3 z; omega
      | succ G ih =>
        intro i ii pre M5 y3 q1 q2 q3 F5 b5 e
        have lenE := congrArg List.length e
        rw [List.length_append, List.length_append] at lenE
        have hl := hdL_len ha hSo h dd
        have n14 : M5 22 14 = S.length := by rw [F5.2 14 (by omega) (by omega)]; exact hS.1
        refine s99_86 (d + 2) K _ _ _ ?_
        refine ⟨by omega, fun u => ?_, fun u => ?_⟩
        · rw [List.drop_eq_nil_of_le (by omega)] at e
          have e9 : pre ++ tesL lt [] = pre := List.append_nil _
          rw [e9] at e
          exact k M5 F5 (by rw [← e]; exact b5)
        · obtain ⟨p, hp⟩ : ∃ p : Int × Int, S[i]? = some p := ⟨_, List.getElem?_eq_getElem (by omega)⟩
          have v := hS.2.1 i p hp
          have ok := hSo p (List.mem_of_getElem? hp)
          have eb := tbE_r p.1
          have ed : S.drop i = p :: S.drop (i + 1) := by
            rw [List.drop_eq_getElem_cons (by omega)]
            congr 1
            rw [List.getElem?_eq_getElem (by omega)] at hp
            injection hp
          have e9 : tesL lt (p :: S.drop (i + 1)) = cbL lt 19 p.1 ++ (nbL p.2 (tbE p.1).toNat ++ tesL lt (S.drop (i + 1))) := rfl
          rw [ed, e9] at e lenE
          rw [List.length_append, List.length_append, nbL_len] at lenE
          obtain ⟨o1, o2⟩ := ok
          have T5 := cdT_F hT (F5.1 47 (by omega) (by omega) (by omega)) (F5.1 48 (by omega) (by omega) (by omega))
          obtain ⟨c1, c2, c3⟩ := cdT_at T5 (s := p.1) o1.1 (by omega)
          have cl := cbL_len lt 19 (s := p.1) (by omega)
          have e64 : ∀ M6 : FM, pbF M M6 → M6 64 ii = 32 * p.2 + p.1 := fun M6 F6 => by rw [F6.1 64 (by omega) (by omega) (by omega), q2]; exact v
          have p7 : (2 : Int) ^ (tbE p.1).toNat ≤ 128 := by
            have := p2_mono (tbE p.1).toNat 7 (by omega)
            exact this
          have ar : (32 * p.2 + p.1) % 32 = p.1 := by omega
          have aq : (32 * p.2 + p.1) / 32 = p.2 := by omega
          refine ⟨by omega, ?_⟩
          rw [e64 M5 F5]
          have TT : (o_is 3 (o_al 0 (o_al 0 (o_get 5 10 10 (o_get 6 2 2 (o_il 3 (o_iald (o_al 0 (o_get 5 10 10 (o_get 6 1 1 (o_il 3 (o_iald (o_callv (d + 2) 90 2 5 (o_al 0 (o_al 0 (o_get 5 13 13 (b99_131 (d + 2) (fW (d + 2) kd99 K) K)))))))))))))))) : FC) [some (fx 22), some (ti (tuL lt)), some (ti ii), y3] [ti p.1] (sh, M5, nx, zl) := by
            refine ⟨by omega, ?_⟩
            rw [c3]
            refine ⟨by omega, ?_⟩
            rw [c1]
            refine putBits_YI (n := (lt p.1).toNat) (by omega) b5 (rvB_r _ _) (by omega) (by omega) (fun M6 F6 b6 => ?_)
            rw [nb_hb] at b6
            have F16 := pbF_t F5 F6
            refine ⟨by omega, ?_⟩
            rw [e64 M6 F16]
            refine ⟨by omega, ?_⟩
            refine bitsTeller_Y (by omega) ?_
            rw [aq]
            refine putBits_YI (n := (tbE p.1).toNat) (by omega) b6 o2 (by omega) (by rw [List.length_append, hbL_len]; omega) (fun M7 F7 b7 => ?_)
            refine ih (i + 1) (ii + 1) _ M7 _ (by omega) (by omega) (by omega) (pbF_t F16 F7) b7 ?_
            rw [← e]
            simp only [List.append_assoc]
            rfl
          rw [← ar] at TT
          exact TT
    have L55 : ∀ (G i : Nat) (ii : Int) (M5 : FM), ((tuL lt) - ii).toNat < G → ii = i → i ≤ (tuL lt).toNat → pbF M M5 → pbV M5 (C ++ slL lt i) → fm_X (d + 2) kd99 55 [some (fx 22), some (ti (tuL lt)), some (ti ii), none] [] (sh, M5, nx, zl) K := by
      intro G
      induction G with
      | zero => intro i ii M5 z; omega
      | succ G ih =>
        intro i ii M5 q1 q2 q3 F5 b5
        refine s99_55 (d + 2) K _ _ _ ?_
        refine ⟨by omega, fun u => ?_, fun u => ?_⟩
        · rw [show i = (tuL lt).toNat by omega] at b5
          refine L86 (S.length + 1) 0 0 _ M5 none (by omega) rfl (by omega) F5 b5 ?_
          rw [List.drop_zero, eH, List.append_assoc]
        · have tr := tel_r (i := ii) (by omega)
          have T5 := cdT_F hT (F5.1 47 (by omega) (by omega) (by omega)) (F5.1 48 (by omega) (by omega) (by omega))
          obtain ⟨c1, c2, c3⟩ := cdT_at T5 (s := tel ii) tr.1 (by omega)
          have l7 := h7 (tel ii) tr.1 tr.2
          refine ⟨by omega, ?_⟩
          rw [F5.1 1 (by omega) (by omega) (by omega), h1 ii (by omega) (by omega)]
          refine ⟨by omega, ?_⟩
          rw [c1]
          refine putBits_Y (n := 3) b5 (by rw [p3]; omega) (by omega) (by rw [List.length_append, slL_len]; omega) (fun M6 F6 b6 => ?_)
          refine ih (i + 1) (ii + 1) M6 (by omega) (by omega) (by omega) (pbF_t F5 F6) ?_
          rw [List.append_assoc, q2] at b6
          exact b6
    exact L55 20 0 0 M4 (by omega) rfl (by omega) F14 (by show pbV M4 (C ++ []); rw [List.append_nil]; exact b4)
  exact fm_Y.imp (T2 _ (by omega)) (fun w H q => by rw [q.1]; exact q.2)
theorem putStored_Y {c nc : Nat} {a : Int} {n : Nat} (hs : shp sh c = some (.inl (.byte, nc))) (hnc : nc ≤ 131072) (hc : c ≠ 22 ∧ c ≠ 23 ∧ c ≠ 24) (ha : 0 ≤ a ∧ a + n ≤ nc) (hn : n ≤ 4096) (hB : pbV M B) (hbound : B.length + 2 + (8 - (B.length + 2) % 8) % 8 + 32 + 8 * n ≤ 526336)
    (k : ∀ M2 : FM, pbF M M2 → pbV M2 (padB (B ++ nbL 0 2) ++ nbL n 16 ++ nbL (65535 - n) 16 ++ sbL (M c) a n) → K none (sh, M2, nx, zl)) : fm_Y (d + 3) 97 [.ref 22, .ref c, .int (Int32.ofInt a), .int (Int32.ofInt n)] (sh, M, nx, zl) K := by
  refine m97 [fx 22, gr c, ti a, ti n] ?_
  have p16 : (2 : Int) ^ 16 = 65536 := by decide
  refine putBits_Y (n := 2) hB ⟨by decide, by decide⟩ (by omega) (by omega) (fun M1 F1 b1 => ?_)
  have l1 : (B ++ nbL 0 2).length = B.length + 2 := by rw [List.length_append, nbL_len]
  have e19 := b1.1.2.1.2
  rw [l1] at e19
  obtain ⟨pd, gp⟩ : ∃ pd : Nat, pd = (8 - (B.length + 2) % 8) % 8 := ⟨_, rfl⟩
  refine putBits_YI (n := pd) (by omega) b1 ⟨by omega, two_pos _⟩ (by omega) (by rw [l1]; omega) (fun M2 F2 b2 => ?_)
  have ep : (B ++ nbL 0 2) ++ nbL 0 pd = padB (B ++ nbL 0 2) := by
    unfold padB
    rw [nbL_0 pd, l1, ← gp]
  rw [ep] at b2
  have lp : (padB (B ++ nbL 0 2)).length = B.length + 2 + pd := by
    rw [← ep, List.length_append, l1, nbL_len]
  refine putBits_Y (n := 16) b2 (by rw [p16]; omega) (by omega) (by rw [lp]; omega) (fun M3 F3 b3 => ?_)
  refine putBits_Y (n := 16) b3 (by rw [p16]; omega) (by omega) (by rw [List.length_append, lp, nbL_len]; omega) (fun M4 F4 b4 => ?_)
  obtain ⟨A, gA⟩ : ∃ A : List Int, A = padB (B ++ nbL 0 2) ++ nbL n 16 ++ nbL (65535 - n) 16 := ⟨_, rfl⟩
  rw [← gA] at b4 k
  have lA : A.length = B.length + 2 + pd + 32 := by
    rw [gA, List.length_append, List.length_append, lp, nbL_len, nbL_len]
  have F14 := pbF_t F1 (pbF_t F2 (pbF_t F3 F4))
  obtain ⟨⟨⟨h1, h2⟩, ⟨h3, h4⟩, hs4⟩, h5⟩ := b4
  have ec : M4 c = M c := F14.1 c hc.1 hc.2.1 hc.2.2
  refine putG_Y (row23 (sh := sh)) hs (by omega) hc.2.1 hc.2.2 (by omega) ha.1 (by omega) ha.2 (by omega) (fun M5 F5 s1 s2 cp kp => ?_)
  have e22 : M5 22 = M4 22 := F5 22 (by omega) (by omega)
  have a8 : A.length % 8 = 0 := by omega
  have lS := sbL_len (M c) a n
  have lN : (A ++ sbL (M c) a n).length = A.length + 8 * n := by rw [List.length_append, lS]
  have z : ∀ C : List Int, C.length % 8 = 0 → blV (tlB C) = 0 := fun C hC => by
    unfold tlB
    rw [List.drop_eq_nil_of_le (by omega)]
    rfl
  refine k M5 (pbF_t F14 ⟨fun x x1 x2 x3 => F5 x x2 x3, fun i _ _ => by rw [e22]⟩) ⟨⟨⟨by rw [s1, h1, lN]; omega, by rw [s2]; exact h2⟩, ⟨?_, by rw [e22, h4, lN]; omega⟩, bsP_app hs4 (sbL_bs _ _ _)⟩, fun i hi => ?_⟩
  · rw [e22, h3, z A a8, z _ (by rw [lN]; omega)]
  · rw [lN] at hi
    by_cases c1 : 8 * i + 8 ≤ A.length
    · rw [byB_app c1, kp i (by omega)]
      exact h5 i c1
    · obtain ⟨j, gj⟩ : ∃ j : Nat, i = A.length / 8 + j := ⟨i - A.length / 8, by omega⟩
      have cj := cp j (by omega) (by omega)
      rw [h1, ec] at cj
      rw [gj, blV_drop8 a8 (by omega), show ((A.length / 8 + j : Nat) : Int) = ((A.length / 8 : Nat) : Int) + j by omega, cj]
end WHEAD
