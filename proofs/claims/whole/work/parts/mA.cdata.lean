/-! FREEZING: data; the class -/
def tbB : List (Int × Int) → List Int
  | [] => []
  | t :: r => leL t.1 8 ++ (leL t.2 4 ++ (leL 0 4 ++ tbB r))
theorem tbB_len : ∀ l : List (Int × Int), (tbB l).length = 16 * l.length
  | [] => rfl
  | t :: r => by
    show (leL t.1 8 ++ (leL t.2 4 ++ (leL 0 4 ++ tbB r))).length = 16 * (r.length + 1)
    rw [List.length_append, List.length_append, List.length_append, leL_len, leL_len, leL_len, tbB_len r]
    omega
theorem tbB_app (t : Int × Int) : ∀ l : List (Int × Int), tbB (l ++ [t]) = tbB l ++ (leL t.1 8 ++ (leL t.2 4 ++ leL 0 4))
  | [] => by
    show leL t.1 8 ++ (leL t.2 4 ++ (leL 0 4 ++ [])) = [] ++ (leL t.1 8 ++ (leL t.2 4 ++ leL 0 4))
    rw [List.append_nil]
    rfl
  | x :: r => by
    show leL x.1 8 ++ (leL x.2 4 ++ (leL 0 4 ++ tbB (r ++ [t]))) = leL x.1 8 ++ (leL x.2 4 ++ (leL 0 4 ++ tbB r)) ++ _
    rw [tbB_app t r]
    simp only [List.append_assoc]
/-- the class's rows of data -/
def daC (M : FM) (s : DS) : Prop := rzO M 19 20 131072 (some (dI s)) ∧ rzO M 92 93 8064 (some (idB (dB s))) ∧ rzO M 90 91 65536 (some (dF s)) ∧ rzO M 78 79 8192 (some (tbB (dT s)))
theorem daC_F {M M2 : FM} {s : DS} (h : daC M s) (e : ∀ c : Nat, (c = 19 ∨ c = 20 ∨ c = 78 ∨ c = 79 ∨ 90 ≤ c ∧ c ≤ 93) → M2 c = M c) : daC M2 s := ⟨rzO_F h.1 (e 19 (by omega)) (e 20 (by omega)), rzO_F h.2.1 (e 92 (by omega)) (e 93 (by omega)), rzO_F h.2.2.1 (e 90 (by omega)) (e 91 (by omega)), rzO_F h.2.2.2 (e 78 (by omega)) (e 79 (by omega))⟩
/-- what putting a file's data leaves -/
def daF (M M2 : FM) (a : Nat) : Prop := (∀ c : Nat, c ≠ 19 → c ≠ 20 → c ≠ 78 → c ≠ 79 → (c < 90 ∨ 93 < c) → c ≠ a → (c < 22 ∨ 67 < c ∨ (49 < c ∧ c < 64)) → M2 c = M c) ∧ ∀ i : Int, (i < 16 ∨ 19 < i) → M2 a i = M a i
theorem daF_r (M : FM) (a : Nat) : daF M M a := ⟨fun _ _ _ _ _ _ _ _ => rfl, fun _ _ => rfl⟩
theorem daF_t {M M2 M3 : FM} {a : Nat} (h : daF M M2 a) (g : daF M2 M3 a) : daF M M3 a := ⟨fun c h1 h2 h3 h4 h5 h6 h7 => (g.1 c h1 h2 h3 h4 h5 h6 h7).trans (h.1 c h1 h2 h3 h4 h5 h6 h7), fun i hi => (g.2 i hi).trans (h.2 i hi)⟩
theorem chk_sl {f : Int → Int} {p n : Int} {B i : Nat} (hn : 0 ≤ n) (hi : (i : Int) * B ≤ n) : chk (sl f p n.toNat) B i = sl f (p + i * B) (min (B : Int) (n - i * B)).toNat := by
  have e : ((i * B : Nat) : Int) = (i : Int) * B := Int.natCast_mul i B
  have s1 : sl f p n.toNat = sl f p (i * B) ++ sl f (p + i * B) (n.toNat - i * B) := by
    rw [← e, ← sl_add, show i * B + (n.toNat - i * B) = n.toNat by omega]
  unfold chk
  rw [s1, List.drop_append_of_le_length (by rw [sl_len]; exact Nat.le_refl _), List.drop_of_length_le (by rw [sl_len]; exact Nat.le_refl _), List.nil_append]
  have s2 : sl f (p + i * B) (n.toNat - i * B) = sl f (p + i * B) (min (B : Int) (n - i * B)).toNat ++ sl f (p + i * B + (min (B : Int) (n - i * B)).toNat) (n.toNat - i * B - (min (B : Int) (n - i * B)).toNat) := by
    rw [← sl_add, show (min (B : Int) (n - i * B)).toNat + (n.toNat - i * B - (min (B : Int) (n - i * B)).toNat) = n.toNat - i * B by omega]
  by_cases c : (B : Int) ≤ n - i * B
  · rw [s2, List.take_append_of_le_length (by rw [sl_len]; omega), List.take_of_length_le (by rw [sl_len]; omega)]
  · rw [List.take_of_length_le (by rw [sl_len]; omega), show (min (B : Int) (n - i * B)).toNat = n.toNat - i * B by omega]
section CDATA
variable {d nx zl : Nat} {K : Option TV → FH → Prop} {sh : Nat → Option Shp} {M : FM} {op : Int} {B : Nat} {s : DS}
theorem row92 (sh : Nat → Option Shp) : rowS sh 92 93 8064 := ⟨⟨rfl, rfl⟩, by decide, by decide, by decide, by decide⟩
theorem row90 (sh : Nat → Option Shp) : rowS sh 90 91 65536 := ⟨⟨rfl, rfl⟩, by decide, by decide, by decide, by decide⟩
theorem row78 (sh : Nat → Option Shp) : rowS sh 78 79 8192 := ⟨⟨rfl, rfl⟩, by decide, by decide, by decide, by decide⟩
theorem putBlocks_Y {a : Nat} {h9 t9 : Option Nat} {x n p : Int} {X : List Int} (hS : shp sh a = some (.inr (3, nodeFl h9 t9))) (ha : a = 17 ∨ 265 ≤ a) (hB : bB5 B) (hop : 0 ≤ op ∧ op ≤ 15) (h16 : M 18 16 = B) (h17 : M 18 17 = op) (hC : pkC M) (h11 : M a 11 = p) (h12 : M a 12 = n) (hp : 0 ≤ p) (hn : 0 ≤ n) (hpn : p + n ≤ 65536) (hX : sl (M 10) p n.toNat = X) (hD : daC M s) (hI : ((dI s).length : Int) + n ≤ 131072) (hb : ((dB s).length : Int) + n / 4096 + 1 ≤ 2016) (hbr : ∀ b ∈ dB s, 0 ≤ b ∧ b ≤ 16842752) (h2 : dN s 2 x = 0 ∧ dN s 3 x = 0) (hr : ∀ j x : Int, -1 ≤ dN s j x ∧ dN s j x ≤ 200000)
    (k : ∀ M2 : FM, daF M M2 a → daC M2 (bkD op B X x s (bkN op B n).toNat) → M2 a 16 = (if 0 < bkN op B n then ((dI s).length : Int) else 0) → M2 a 17 = 4 * (dB s).length → M2 a 18 = M a 18 → M2 a 19 = M a 19 → K none (sh, M2, nx, zl)) : fm_Y (d + 7) 65 [.ref 18, .ref 9, .ref a] (sh, M, nx, zl) K := by
  have br := bB5_r hB
  have xl : (X.length : Int) = n := by
    rw [← hX, sl_len]
    omega
  obtain ⟨⟨m0, m1⟩, m2, m3, ⟨r0, r1, r2⟩, m4⟩ := bkN_b (op := op) (B := B) (n := n) hB hn
  have e19 : M 19 1 = (dI s).length := hD.1.2.1
  have e92 : M 92 1 = 4 * (dB s).length := by
    have := hD.2.1.2.1
    rw [idB_len] at this
    omega
  refine m65 [fx 18, fx 9, gr a] ?_
  refine fbCount_Y hS h12 (by omega) h16 (by omega) h17 hop ?_
  have LOOP : ∀ (N i : Nat) (M1 : FM) (y5 y6 : Option TV), (bkN op B n).toNat - i < N → (i : Int) ≤ bkN op B n → daF M M1 a → daC M1 (bkD op B X x s i) → M1 a 16 = (if 0 < bkN op B n then ((dI s).length : Int) else 0) → M1 a 17 = 4 * (dB s).length → M1 a 18 = M a 18 → M1 a 19 = M a 19 → fm_X (d + 6) kd65 39 [some (fx 18), some (fx 9), some (gr a), some (ti (bkN op B n)), some (ti i), y5, y6] [] (sh, M1, nx, zl) K := by
    intro N
    induction N with
    | zero =>
      intro i M1 y5 y6 hN
      omega
    | succ N ih =>
      intro i M1 y5 y6 hN hi f1 D1 c16 c17 c18 c19
      have e18 : M1 18 = M 18 := f1.1 18 (by omega) (by omega) (by omega) (by omega) (by omega) (by omega) (by omega)
      have e10 : M1 10 = M 10 := f1.1 10 (by omega) (by omega) (by omega) (by omega) (by omega) (by omega) (by omega)
      have b16 : M1 18 16 = B := by rw [e18]; exact h16
      have b12 : M1 a 12 = n := by rw [f1.2 12 (by omega)]; exact h12
      have b11 : M1 a 11 = p := by rw [f1.2 11 (by omega)]; exact h11
      refine s65_39 (d + 6) K _ _ _ ?_
      refine ⟨by omega, fun w => ?_, fun w => ?_⟩
      · have e : (bkN op B n).toNat = i := by omega
        refine k M1 f1 ?_ c16 c17 c18 c19
        rw [e]
        exact D1
      · have iB : (i : Int) * B < n := by
          have q := Int.mul_le_mul_of_nonneg_right (c := (B : Int)) (show (i : Int) ≤ bkN op B n - 1 by omega) (by omega)
          rw [if_neg (by omega)] at m2
          omega
        have i0 : (0 : Int) ≤ (i : Int) * B := by
          have := Int.natCast_nonneg (i * B)
          rw [Int.natCast_mul] at this
          exact this
        have ib : (i : Int) * M1 18 16 = (i : Int) * B := by rw [b16]
        have bl : (dB (bkD op B X x s i)).length = (dB s).length + i := (bkD_q (op := op) (B := B) (X := X) (x := x) (s := s) hB (by omega) hbr h2 hr i (by omega)).1.2
        have il : ((dI (bkD op B X x s i)).length : Int) ≤ (dI s).length + i * B := by
          have := (bkD_q (op := op) (B := B) (X := X) (x := x) (s := s) hB (by omega) hbr h2 hr i (by omega)).1.1
          omega
        refine ⟨_, hS, ?_⟩
        refine ⟨by omega, ?_⟩
        have PT : ∀ m : Int, m = min (B : Int) (n - i * B) → (o_is 5 (o_al 2 (o_get 3 11 11 (o_il 4 (o_al 0 (o_get 4 16 16 (o_imul (o_iadd (o_is 6 (o_al 0 (o_get 4 11 11 (o_al 1 (b65_85 (d + 6) (fW (d + 6) kd65 K) K)))))))))))) : FC) [some (fx 18), some (fx 9), some (gr a), some (ti (bkN op B n)), some (ti i), y5, y6] [ti m] (sh, M1, nx, zl) := by
          intro m hm
          have ck : chk X B i = sl (M 10) (p + i * B) m.toNat := by
            rw [← hX, chk_sl hn (by omega), hm]
          have cl : (chk X B i).length = m.toNat := by rw [ck, sl_len]
          have m1' : 1 ≤ m ∧ m ≤ B ∧ i * B + m ≤ n := by omega
          clear hm
          refine ⟨_, hS, ?_⟩
          have NEXT : ∀ (v : Int) (M2 : FM), (v = if chk X B i = List.replicate (chk X B i).length 0 then 0 else (stB op (chk X B i)).2) → (0 ≤ v ∧ v ≤ 16842752) → daF M M2 a → rzO M2 19 20 131072 (some (dI (bkD op B X x s (i + 1)))) → rzO M2 92 93 8064 (some (idB (dB (bkD op B X x s i)))) → rzO M2 90 91 65536 (some (dF (bkD op B X x s i))) → rzO M2 78 79 8192 (some (tbB (dT (bkD op B X x s i)))) → M2 a = M1 a → b65_114 (d + 6) (fW (d + 6) kd65 K) K [some (fx 18), some (fx 9), some (gr a), some (ti (bkN op B n)), some (ti i), some (ti m), some (ti (p + i * B))] [ti v, fx 92] (sh, M2, nx, zl) := by
            intro v M2 hv vr f2 w1 w2 w3 w4 ea
            refine putFour_O (row92 sh) (by omega) w2 (fun M3 f3 w5 => ?_)
            rw [apO_fit (by rw [idB_len, leL_len]; omega), ← idB_app] at w5
            have eB : dB (bkD op B X x s (i + 1)) = dB (bkD op B X x s i) ++ [v] := by
              show dB (bkD op B X x s i) ++ [if chk X B i = List.replicate (chk X B i).length 0 then 0 else (stB op (chk X B i)).2] = _
              rw [hv]
            refine ih (i + 1) M3 (some (ti m)) (some (ti (p + i * B))) (by omega) (by omega) ⟨fun c x1 x2 x3 x4 x5 x6 x7 => ?_, fun j hj => ?_⟩ ⟨?_, ?_, ?_, ?_⟩ ?_ ?_ ?_ ?_
            · rw [f3 c (by omega) (by omega)]
              exact f2.1 c x1 x2 x3 x4 x5 x6 x7
            · rw [f3 a (by omega) (by omega)]
              exact f2.2 j hj
            · exact rzO_F w1 (f3 19 (by omega) (by omega)) (f3 20 (by omega) (by omega))
            · rw [eB]
              exact w5
            · exact rzO_F w3 (f3 90 (by omega) (by omega)) (f3 91 (by omega) (by omega))
            · exact rzO_F w4 (f3 78 (by omega) (by omega)) (f3 79 (by omega) (by omega))
            · rw [f3 a (by omega) (by omega), ea]
              exact c16
            · rw [f3 a (by omega) (by omega), ea]
              exact c17
            · rw [f3 a (by omega) (by omega), ea]
              exact c18
            · rw [f3 a (by omega) (by omega), ea]
              exact c19
          have PT2 : ∀ w6 : Int, w6 = p + i * B → (o_al 0 (o_get 4 11 11 (o_al 1 (b65_85 (d + 6) (fW (d + 6) kd65 K) K))) : FC) [some (fx 18), some (fx 9), some (gr a), some (ti (bkN op B n)), some (ti i), some (ti m), some (ti w6)] [] (sh, M1, nx, zl) := by
           intro w6 hw6
           rw [hw6]
           clear hw6 w6
           refine isZeros_Y (c := 10) (nc := 65536) rfl (by omega) (by omega) (by omega) (by omega) (fun z hz => ?_)
           rw [e10, ← ck, ← cl] at hz
           have eI : dI (bkD op B X x s (i + 1)) = if chk X B i = List.replicate (chk X B i).length 0 then dI (bkD op B X x s i) else dI (bkD op B X x s i) ++ (stB op (chk X B i)).1 := rfl
           rcases hz with ⟨z1, z2⟩ | ⟨z1, z2⟩
           · refine ⟨by omega, fun w2 => by omega, fun w2 => ?_⟩
             refine NEXT 0 M1 (by rw [if_pos z2]) (by omega) f1 ?_ D1.2.1 D1.2.2.1 D1.2.2.2 rfl
             rw [eI, if_pos z2]
             exact D1.1
           · refine ⟨by omega, fun w2 => ?_, fun w2 => by omega⟩
             have sn := stB_num op (chk X B i) (by omega)
             have sl2 := stB_len op (chk X B i)
             refine cputBlock_Y (c := 10) (nc := 65536) (X := chk X B i) rfl (by omega) (by omega) (by omega) (by omega) (by omega) (by rw [e10, ← ck]) hop (by rw [e18]; exact h17) ⟨by rw [f1.1 1 (by omega) (by omega) (by omega) (by omega) (by omega) (by omega) (by omega)]; exact hC.1, cdT_F hC.2.1 (f1.1 54 (by omega) (by omega) (by omega) (by omega) (by omega) (by omega) (by omega)) (f1.1 55 (by omega) (by omega) (by omega) (by omega) (by omega) (by omega) (by omega)), cdT_F hC.2.2 (f1.1 61 (by omega) (by omega) (by omega) (by omega) (by omega) (by omega) (by omega)) (f1.1 62 (by omega) (by omega) (by omega) (by omega) (by omega) (by omega) (by omega))⟩ D1.1 (fun M2 f2 w5 => ?_)
             rw [apO_fit (by omega)] at w5
             refine NEXT _ M2 (by rw [if_neg z2]) (by omega) (daF_t f1 ⟨fun c x1 x2 x3 x4 x5 x6 x7 => f2 c x1 x2 x7, fun j hj => by rw [f2 a (by omega) (by omega) (by omega)]⟩) ?_ (rzO_F D1.2.1 (f2 92 (by omega) (by omega) (by omega)) (f2 93 (by omega) (by omega) (by omega))) (rzO_F D1.2.2.1 (f2 90 (by omega) (by omega) (by omega)) (f2 91 (by omega) (by omega) (by omega))) (rzO_F D1.2.2.2 (f2 78 (by omega) (by omega) (by omega)) (f2 79 (by omega) (by omega) (by omega))) (f2 a (by omega) (by omega) (by omega))
             rw [eI, if_neg z2]
             exact w5
          exact PT2 _ (by rw [b11, ib])
        exact PT _ (by rw [b12, ib, b16])
  have B22 : ∀ v : Int, v = (if 0 < bkN op B n then ((dI s).length : Int) else 0) → b65_22 (d + 6) (fW (d + 6) kd65 K) K [some (fx 18), some (fx 9), some (gr a), some (ti (bkN op B n)), none, none, none] [ti v, gr a] (sh, M, nx, zl) := by
    intro v hv
    refine ⟨_, ⟨by omega, hS, rfl⟩, ?_⟩
    obtain ⟨Q1, g1⟩ : ∃ Q1 : FM, Q1 = pq M a 16 v := ⟨_, rfl⟩
    have q1o : ∀ c : Nat, c ≠ a → Q1 c = M c := fun c hc => by rw [g1, pq_o _ _ _ hc]
    have T1 : (o_al 2 (o_al 0 (o_get 4 11 11 (o_get 1 1 1 (o_put 3 17 17 (o_ic 0 (o_is 4 (fW (d + 6) kd65 K 39))))))) : FC) [some (fx 18), some (fx 9), some (gr a), some (ti (bkN op B n)), none, none, none] [] (sh, Q1, nx, zl) := by
      refine ⟨_, ⟨by omega, hS, rfl⟩, ?_⟩
      rw [q1o 92 (by omega), e92]
      obtain ⟨Q2, g2⟩ : ∃ Q2 : FM, Q2 = pq Q1 a 17 (4 * ((dB s).length : Int)) := ⟨_, rfl⟩
      have q2o : ∀ c : Nat, c ≠ a → Q2 c = M c := fun c hc => by rw [g2, pq_o _ _ _ hc, q1o c hc]
      have q2n : ∀ j : Int, j ≠ 16 → j ≠ 17 → Q2 a j = M a j := fun j j1 j2 => by rw [g2, pq_ne _ _ _ _ j2, g1, pq_ne _ _ _ _ j1]
      have F := LOOP ((bkN op B n).toNat + 1) 0 Q2 none none (by omega) (by omega) ⟨fun c _ _ _ _ _ x6 _ => q2o c x6, fun j hj => q2n j (by omega) (by omega)⟩ (daC_F hD (fun c hc => q2o c (by omega))) (by rw [g2, pq_ne _ _ _ _ (by decide), g1, pq_at]; exact hv) (by rw [g2, pq_at]) (q2n 18 (by decide) (by decide)) (q2n 19 (by decide) (by decide))
      rw [g2] at F
      exact F
    rw [g1] at T1
    exact T1
  refine ⟨by omega, fun w => B22 0 (by rw [if_neg (by omega)]), fun w => ?_⟩
  exact B22 (M 19 1) (by rw [if_pos (by omega)]; exact e19)
/-- what closing a fragment leaves -/
def cfF (M M2 : FM) : Prop := ∀ c : Nat, c ≠ 19 → c ≠ 20 → c ≠ 78 → c ≠ 79 → (c < 90 ∨ 93 < c) → (c < 22 ∨ 67 < c ∨ (49 < c ∧ c < 64)) → M2 c = M c
theorem closeFragment_Y (hop : 0 ≤ op ∧ op ≤ 15) (h17 : M 18 17 = op) (hC : pkC M) (hD : daC M s) (hI : ((dI s).length : Int) + (dF s).length ≤ 131072) (ht : (dT s).length ≤ 500) (k : ∀ M2 : FM, cfF M M2 → daC M2 (clD op s) → K none (sh, M2, nx, zl)) : fm_Y (d + 7) 101 [.ref 18] (sh, M, nx, zl) K := by
  obtain ⟨D1, D2, D3, D4⟩ := id hD
  have e90 : M 90 1 = (dF s).length := D3.2.1
  have e91 : sl (M 91) 0 (dF s).length = dF s := D3.2.2.1
  have e19 : M 19 1 = (dI s).length := D1.2.1
  have fl : (dF s).length ≤ 65536 := by
    have := D3.1.2
    omega
  refine m101 [fx 18] ?_
  refine ⟨by omega, fun w => ?_, fun w => ?_⟩
  · have e : clD op s = s := if_pos (List.length_eq_zero_iff.1 (by omega))
    refine k M (fun _ _ _ _ _ _ _ => rfl) ?_
    rw [e]
    exact hD
  · have ne : dF s ≠ [] := fun q => by
      rw [q] at e90
      have : M 90 1 = 0 := e90
      omega
    have e : clD op s = (dI s ++ (stB op (dF s)).1, dB s, [], dT s ++ [(((dI s).length : Int), (stB op (dF s)).2)], dN s) := if_neg ne
    have sl2 := stB_len op (dF s)
    have sn := stB_num op (dF s) fl
    refine ⟨by omega, ?_⟩
    refine putEight_O (row78 sh) (by omega) D4 (fun M1 f1 w1 => ?_)
    rw [e19, apO_fit (by rw [tbB_len, leL_len]; omega)] at w1
    have e90' : M1 90 1 = (dF s).length := by
      rw [f1 90 (by omega) (by omega)]
      exact e90
    refine cputBlock_Y (c := 91) (nc := 65536) (X := dF s) rfl (by omega) (by omega) (by omega) (by omega) (by omega) (by rw [f1 91 (by omega) (by omega), e90', Int.toNat_natCast]; exact e91) hop (by rw [f1 18 (by omega) (by omega)]; exact h17) ⟨by rw [f1 1 (by omega) (by omega)]; exact hC.1, cdT_F hC.2.1 (f1 54 (by omega) (by omega)) (f1 55 (by omega) (by omega)), cdT_F hC.2.2 (f1 61 (by omega) (by omega)) (f1 62 (by omega) (by omega))⟩ (rzO_F D1 (f1 19 (by omega) (by omega)) (f1 20 (by omega) (by omega))) (fun M2 f2 w2 => ?_)
    rw [apO_fit (by omega)] at w2
    refine putFour_O (row78 sh) (by omega) (rzO_F w1 (f2 78 (by omega) (by omega) (by omega)) (f2 79 (by omega) (by omega) (by omega))) (fun M3 f3 w3 => ?_)
    rw [apO_fit (by rw [List.length_append, tbB_len, leL_len, leL_len]; omega)] at w3
    refine putFour_O (row78 sh) (by omega) w3 (fun M4 f4 w4 => ?_)
    rw [apO_fit (by rw [List.length_append, List.length_append, tbB_len, leL_len, leL_len, leL_len]; omega)] at w4
    refine clear_O (row90 sh) (fun M5 f5 w5 => ?_)
    have o : ∀ c : Nat, c ≠ 19 → c ≠ 20 → c ≠ 78 → c ≠ 79 → c ≠ 90 → (c < 22 ∨ 67 < c ∨ (49 < c ∧ c < 64)) → M5 c = M c := fun c x1 x2 x3 x4 x5 x6 => by rw [f5 c x5, f4 c x3 x4, f3 c x3 x4, f2 c x1 x2 x6, f1 c x3 x4]
    refine k M5 (fun c x1 x2 x3 x4 x5 x7 => o c x1 x2 x3 x4 (by omega) x7) ?_
    rw [e]
    refine ⟨?_, ?_, w5, ?_⟩
    · show rzO M5 19 20 131072 (some (dI s ++ (stB op (dF s)).1))
      exact rzO_F w2 (by rw [f5 19 (by omega), f4 19 (by omega) (by omega), f3 19 (by omega) (by omega)]) (by rw [f5 20 (by omega), f4 20 (by omega) (by omega), f3 20 (by omega) (by omega)])
    · exact rzO_F D2 (o 92 (by omega) (by omega) (by omega) (by omega) (by omega) (by omega)) (o 93 (by omega) (by omega) (by omega) (by omega) (by omega) (by omega))
    · show rzO M5 78 79 8192 (some (tbB (dT s ++ [(((dI s).length : Int), (stB op (dF s)).2)])))
      rw [tbB_app]
      have w6 := rzO_F w4 (f5 78 (by omega)) (f5 79 (by omega))
      simp only [List.append_assoc] at w6
      exact w6
theorem putRest_Y {a : Nat} {h9 t9 : Option Nat} {n p : Int} {X : List Int} (hS : shp sh a = some (.inr (3, nodeFl h9 t9))) (ha : a = 17 ∨ 265 ≤ a) (hB : bB5 B) (hop : 0 ≤ op ∧ op ≤ 15) (h16 : M 18 16 = B) (h17 : M 18 17 = op) (h11 : M a 11 = p) (h12 : M a 12 = n) (hp : 0 ≤ p) (hn : 0 ≤ n) (hpn : p + n ≤ 65536) (hX : sl (M 10) p n.toNat = X) (hD : daC M s) (hf : ((dF s).length : Int) + rsN op B n ≤ 65536)
    (k : ∀ M2 : FM, daF M M2 a → daC M2 (dI s, dB s, dF s ++ X.drop (X.length - (rsN op B n).toNat), dT s, dN s) → M2 a 16 = M a 16 → M2 a 17 = M a 17 → M2 a 18 = (if rsN op B n = 0 then -1 else ((dT s).length : Int)) → M2 a 19 = (if rsN op B n = 0 then 0 else ((dF s).length : Int)) → K none (sh, M2, nx, zl)) : fm_Y (d + 2) 103 [.ref 18, .ref 9, .ref a] (sh, M, nx, zl) K := by
  have br := bB5_r hB
  have xl : (X.length : Int) = n := by
    rw [← hX, sl_len]
    omega
  obtain ⟨-, -, -, ⟨r0, r1, r2⟩, -⟩ := bkN_b (op := op) (B := B) (n := n) hB hn
  obtain ⟨D1, D2, D3, D4⟩ := id hD
  have e90 : M 90 1 = (dF s).length := D3.2.1
  have e78 : M 78 1 = 16 * (dT s).length := by
    have := D4.2.1
    rw [tbB_len] at this
    omega
  have tl : (dT s).length ≤ 512 := by
    have := D4.1.2
    omega
  obtain ⟨r, hr⟩ : ∃ r, r = rsN op B n := ⟨_, rfl⟩
  refine m103 [fx 18, fx 9, gr a] ?_
  refine restOf_Y hS h12 (by omega) h16 (by omega) h17 hop ?_
  rw [← hr] at r0 r1 r2 hf k ⊢
  have B47 : ∀ (v w : Int) (M1 : FM), v = (if r = 0 then -1 else ((dT s).length : Int)) → w = (if r = 0 then 0 else ((dF s).length : Int)) → (∀ c : Nat, c ≠ a → M1 c = M c) → (∀ j : Int, j ≠ 18 → M1 a j = M a j) → M1 a 18 = v → b103_47 (d + 1) (fW (d + 1) kd103 K) K [some (fx 18), some (fx 9), some (gr a), some (ti r)] [ti w, gr a] (sh, M1, nx, zl) := by
    intro v w M1 hv hw o1 n1 v1
    refine ⟨_, ⟨by omega, hS, rfl⟩, ?_⟩
    obtain ⟨Q, gQ⟩ : ∃ Q : FM, Q = pq M1 a 19 w := ⟨_, rfl⟩
    have qo : ∀ c : Nat, c ≠ a → Q c = M c := fun c hc => by rw [gQ, pq_o _ _ _ hc, o1 c hc]
    have qn : ∀ j : Int, j ≠ 18 → j ≠ 19 → Q a j = M a j := fun j j1 j2 => by rw [gQ, pq_ne _ _ _ _ j2, n1 j j1]
    have T : (o_al 0 (o_get 4 10 10 (o_al 1 (o_get 1 0 0 (o_al 2 (o_get 3 11 11 (o_al 2 (o_get 3 12 12 (o_iadd (o_il 3 (o_isub (o_il 3 (o_callv (d + 1) 35 3 1 (o_ret K))))))))))))) : FC) [some (fx 18), some (fx 9), some (gr a), some (ti r)] [] (sh, Q, nx, zl) := by
      refine ⟨_, hS, ?_⟩
      refine ⟨_, hS, ?_⟩
      rw [qn 11 (by decide) (by decide), qn 12 (by decide) (by decide), h11, h12]
      refine putAll_O (c := 10) (nc := 65536) (row90 sh) rfl (by omega) (by omega) (by omega) (by omega) (by omega) (by omega) (rzO_F D3 (qo 90 (by omega)) (qo 91 (by omega))) (fun M3 f3 w3 => ?_)
      have ed : X.drop (X.length - r.toNat) = sl (M 10) (p + n - r) r.toNat := by
        rw [← hX, sl_len]
        have e5 : sl (M 10) p n.toNat = sl (M 10) p (n.toNat - r.toNat) ++ sl (M 10) (p + n - r) r.toNat := by
          have e6 := sl_add (M 10) (n.toNat - r.toNat) r.toNat p
          rw [show n.toNat - r.toNat + r.toNat = n.toNat by omega, show p + ((n.toNat - r.toNat : Nat) : Int) = p + n - r by omega] at e6
          exact e6
        rw [e5, List.drop_append_of_le_length (by rw [sl_len]; exact Nat.le_refl _), List.drop_of_length_le (by rw [sl_len]; exact Nat.le_refl _), List.nil_append]
      rw [qo 10 (by omega), apO_fit (by rw [sl_len]; omega), ← ed] at w3
      refine k M3 ⟨fun c x1 x2 x3 x4 x5 x6 x7 => by rw [f3 c (by omega) (by omega), qo c x6], fun j hj => by rw [f3 a (by omega) (by omega), qn j (by omega) (by omega)]⟩ ⟨?_, ?_, w3, ?_⟩ ?_ ?_ ?_ ?_
      · exact rzO_F D1 (by rw [f3 19 (by omega) (by omega), qo 19 (by omega)]) (by rw [f3 20 (by omega) (by omega), qo 20 (by omega)])
      · exact rzO_F D2 (by rw [f3 92 (by omega) (by omega), qo 92 (by omega)]) (by rw [f3 93 (by omega) (by omega), qo 93 (by omega)])
      · exact rzO_F D4 (by rw [f3 78 (by omega) (by omega), qo 78 (by omega)]) (by rw [f3 79 (by omega) (by omega), qo 79 (by omega)])
      · rw [f3 a (by omega) (by omega), qn 16 (by decide) (by decide)]
      · rw [f3 a (by omega) (by omega), qn 17 (by decide) (by decide)]
      · rw [f3 a (by omega) (by omega), gQ, pq_ne _ _ _ _ (by decide), v1]
        exact hv
      · rw [f3 a (by omega) (by omega), gQ, pq_at]
        exact hw
    rw [gQ] at T
    exact T
  have B28 : ∀ v : Int, v = (if r = 0 then -1 else ((dT s).length : Int)) → b103_28 (d + 1) (fW (d + 1) kd103 K) K [some (fx 18), some (fx 9), some (gr a), some (ti r)] [ti v, gr a] (sh, M, nx, zl) := by
    intro v hv
    refine ⟨_, ⟨by omega, hS, rfl⟩, ?_⟩
    obtain ⟨Q, gQ⟩ : ∃ Q : FM, Q = pq M a 18 v := ⟨_, rfl⟩
    have qo : ∀ c : Nat, c ≠ a → Q c = M c := fun c hc => by rw [gQ, pq_o _ _ _ hc]
    have qn : ∀ j : Int, j ≠ 18 → Q a j = M a j := fun j j1 => by rw [gQ, pq_ne _ _ _ _ j1]
    have q18 : Q a 18 = v := by rw [gQ, pq_at]
    have T : (o_al 2 (o_il 3 (o_if .ne (o_al 0 (o_get 4 10 10 (o_get 1 1 1 (b103_47 (d + 1) (fW (d + 1) kd103 K) K)))) (o_ic 0 (b103_47 (d + 1) (fW (d + 1) kd103 K) K)))) : FC) [some (fx 18), some (fx 9), some (gr a), some (ti r)] [] (sh, Q, nx, zl) := by
      refine ⟨by omega, fun w => ?_, fun w => ?_⟩
      · exact B47 v (Q 90 1) Q hv (by rw [if_neg w, qo 90 (by omega)]; exact e90) qo qn q18
      · exact B47 v 0 Q hv (by rw [if_pos w]) qo qn q18
    rw [gQ] at T
    exact T
  refine ⟨by omega, fun w => ?_, fun w => ?_⟩
  · refine ⟨by omega, ?_⟩
    exact B28 (M 78 1 / 16) (by rw [if_neg w]; omega)
  · exact B28 (-1) (by rw [if_pos w])
end CDATA
