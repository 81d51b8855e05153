/-! PACKING: lengths told in runs; the class, whole; the reference -/
theorem rnG_0 {r : Int → Int} {al v : Int} {j : Int} (h : ¬(j < al ∧ r j = v)) : ∀ g : Nat, rnG r al v g j = 0
  | 0 => rfl
  | g + 1 => by
    unfold rnG
    rw [if_neg h]
theorem rnG_s {r : Int → Int} {al v : Int} {i j : Int} (h1 : i + j < al) (h2 : r (i + j) = v) : rnG r al v (al - i - j).toNat (i + j) = 1 + rnG r al v (al - i - (j + 1)).toNat (i + (j + 1)) := by
  have e : (al - i - j).toNat = (al - i - (j + 1)).toNat + 1 := by omega
  rw [e]
  show (if i + j < al ∧ r (i + j) = v then 1 + rnG r al v (al - i - (j + 1)).toNat (i + j + 1) else 0) = _
  rw [if_pos ⟨h1, h2⟩, show i + j + 1 = i + (j + 1) by omega]
theorem hrow_b {la lb : Int → Int} {h : Int} (ha : ∀ s : Int, 0 ≤ s → s < 286 → 0 ≤ la s ∧ la s ≤ 15) (hb : ∀ s : Int, 0 ≤ s → s < 30 → 0 ≤ lb s ∧ lb s ≤ 15) (hh : h ≤ 286) {i : Int} (hi : 0 ≤ i ∧ i < h + 30) : 0 ≤ hrow la lb h i ∧ hrow la lb h i ≤ 15 := by
  unfold hrow
  split
  · exact ha i hi.1 (by omega)
  · exact hb (i - h) (by omega) (by omega)
section MTELL
variable {d nx zl : Nat} {K : Option TV → FH → Prop} {sh : Nat → Option Shp} {M : FM} {T : List (Int × Int)}
theorem cq29 : cqS sh 29 32 33 34 30 31 286 := ⟨⟨35, rfl⟩, ⟨rfl, rfl, rfl, rfl, rfl⟩, by omega, by omega, by omega⟩
theorem cq36 : cqS sh 36 39 40 41 37 38 30 := ⟨⟨42, rfl⟩, ⟨rfl, rfl, rfl, rfl, rfl⟩, by omega, by omega, by omega⟩
theorem cq43 : cqS sh 43 46 47 48 44 45 19 := ⟨⟨49, rfl⟩, ⟨rfl, rfl, rfl, rfl, rfl⟩, by omega, by omega, by omega⟩
theorem tellLengths_Y {la lb : Int → Int} {h al : Int} (ha : ∀ s : Nat, s < 286 → M 33 s = la s ∧ 0 ≤ la s ∧ la s ≤ 15) (hb : ∀ s : Nat, s < 30 → M 40 s = lb s ∧ 0 ≤ lb s ∧ lb s ≤ 15) (hh : h = usL la 286) (hal : al = h + max 1 (usL lb 30)) (k : ∀ M2 : FM, tdF M M2 → tdV M2 (teS (hrow la lb h) al) → K none (sh, M2, nx, zl)) : fm_Y (d + 3) 85 [.ref 22] (sh, M, nx, zl) K := by
  have u1 := usL_b la 286
  have u2 := usL_b lb 30
  have hrb : ∀ i : Int, 0 ≤ i → i < h + 30 → 0 ≤ hrow la lb h i ∧ hrow la lb h i ≤ 15 := fun i i0 i1 => hrow_b (fun s s0 s1 => by have := ha s.toNat (by omega); rw [show (s.toNat : Int) = s by omega] at this; exact this.2) (fun s s0 s1 => by have := hb s.toNat (by omega); rw [show (s.toNat : Int) = s by omega] at this; exact this.2) (by omega) ⟨i0, i1⟩
  refine m85 [fx 22] ?_
  have S3 : shp sh 43 = some (.inr (6, [some (some 46), some (some 47), some (some 48), some (some 49), some (some 44), some (some 45)])) := rfl
  refine clearCounts_Y (n := 19) S3 rfl (by omega) (by omega) (fun M1 F1 z1 => ?_)
  obtain ⟨P, gP⟩ : ∃ P : FM, P = pq M1 22 14 0 := ⟨_, rfl⟩
  have oP : ∀ x : Nat, x ≠ 22 → x ≠ 46 → P x = M x := fun x x1 x2 => by rw [gP, pq_o _ _ _ x1, F1 x x2]
  have FP : tdF M P := ⟨fun x x1 x2 _ => oP x x1 x2, fun i hi => by rw [gP, pq_ne _ _ _ _ hi, F1 22 (by omega)]⟩
  have VP : tdV P [] := ⟨by rw [gP, pq_at]; rfl, fun j p hj => (by cases hj), fun s s0 s1 => by rw [gP, pq_o _ _ _ (by omega), z1 s s0 s1]; rfl⟩
  obtain ⟨r, gr'⟩ : ∃ r : Int → Int, r = hrow la lb h := ⟨_, rfl⟩
  rw [← gr'] at k hrb
  have A33 : ∀ M2 : FM, tdF M M2 → ∀ s : Nat, s < 286 → M2 33 s = la s := fun M2 F2 s hs => by rw [F2.1 33 (by omega) (by omega) (by omega)]; exact (ha s hs).1
  have A40 : ∀ M2 : FM, tdF M M2 → ∀ s : Nat, s < 30 → M2 40 s = lb s := fun M2 F2 s hs => by rw [F2.1 40 (by omega) (by omega) (by omega)]; exact (hb s hs).1
  have L39 : ∀ (g : Nat) (i ki : Int) (pre : List (Int × Int)) (M2 : FM) (y5 y6 : Option TV), al - i ≤ g → 0 ≤ i → i ≤ al → 0 ≤ ki → ki ≤ i → (pre.length : Int) ≤ i → tdF M M2 → tdV M2 pre → teS r al = pre ++ teG r al g i → fm_X (d + 2) kd85 39 [some (fx 22), some (ti h), some (ti al), some (ti i), some (ti ki), y5, y6] [] (sh, M2, nx, zl) K := by
    intro g
    induction g with
    | zero =>
      intro i ki pre M2 y5 y6 q1 q2 q3 q4 q5 q6 F2 h2 e
      have e0 : pre ++ teG r al 0 i = pre := List.append_nil _
      rw [e0] at e
      have KK : b85_110 (d + 2) (fW (d + 2) kd85 K) K [some (fx 22), some (ti h), some (ti al), some (ti i), some (ti ki), y5, y6] [] (sh, M2, nx, zl) := k M2 F2 (by rw [e]; exact h2)
      refine s85_39 (d + 2) K _ _ _ ?_
      exact ⟨by omega, fun _ => KK, fun _ => ⟨by omega, fun _ => KK, fun z => by omega⟩⟩
    | succ g ih =>
      intro i ki pre M2 y5 y6 q1 q2 q3 q4 q5 q6 F2 h2 e
      have eG : teG r al (g + 1) i = if i < al then trN (r i) (rnS r al i) ++ teG r al g (i + rnS r al i) else [] := rfl
      rw [eG] at e
      refine s85_39 (d + 2) K _ _ _ ?_
      refine ⟨by omega, fun z => by omega, fun _ => ?_⟩
      refine ⟨by omega, fun u => ?_, fun u => ?_⟩
      · rw [if_neg (by omega), List.append_nil] at e
        exact k M2 F2 (by rw [e]; exact h2)
      · rw [if_pos u] at e
        have rb := rnS_b (r := r) u
        have vb := hrb i (by omega) (by omega)
        refine lengthAt_Y (A33 M2 F2) (A40 M2 F2) (by omega) (by omega) ?_
        rw [← gr']
        have L63 : ∀ (G : Nat) (run : Int), (al - i - run).toNat < G → 1 ≤ run → i + run ≤ al → rnS r al i = run + rnG r al (r i) (al - i - run).toNat (i + run) → fm_X (d + 2) kd85 63 [some (fx 22), some (ti h), some (ti al), some (ti i), some (ti ki), some (ti (r i)), some (ti run)] [] (sh, M2, nx, zl) K := by
          intro G
          induction G with
          | zero => intro run z; omega
          | succ G ih2 =>
            intro run p1 p2 p3 p4
            have B91 : rnS r al i = run → b85_91 (d + 2) (fW (d + 2) kd85 K) K [some (fx 22), some (ti h), some (ti al), some (ti i), some (ti ki), some (ti (r i)), some (ti run)] [] (sh, M2, nx, zl) := by
              intro er
              rw [er] at e
              refine tellRun_Y h2 (by omega) (by omega) (by omega) (fun M3 F3 h3 => ?_)
              have tl := trN_len (r i) run (by omega)
              exact ih (i + run) (ki + 1) _ M3 _ _ (by omega) (by omega) (by omega) (by omega) (by omega) (by rw [List.length_append]; omega) (tdF_t F2 F3) h3 (by rw [e, List.append_assoc])
            refine s85_63 (d + 2) K _ _ _ ?_
            refine ⟨by omega, fun v => ?_, fun v => ?_⟩
            · refine B91 ?_
              rw [p4, rnG_0 (by omega)]
              omega
            · refine lengthAt_Y (A33 M2 F2) (A40 M2 F2) (by omega) (by omega) ?_
              rw [← gr']
              have vb2 := hrb (i + run) (by omega) (by omega)
              refine ⟨by omega, fun w => ?_, fun w => ?_⟩
              · refine B91 ?_
                rw [p4, rnG_0 (by omega)]
                omega
              · refine ih2 (run + 1) (by omega) (by omega) (by omega) ?_
                rw [p4, rnG_s (by omega) (by omega)]
                omega
        refine L63 (al + 1).toNat 1 (by omega) (by omega) (by omega) ?_
        have := rnG_s (r := r) (al := al) (v := r i) (i := i) (j := 0) (by omega) (by rw [Int.add_zero])
        rw [show al - i - 0 = al - i by omega, Int.add_zero, show (0 : Int) + 1 = 1 from rfl] at this
        exact this
  have T1 : (o_al 0 (o_get 5 8 8 (o_callv (d + 2) 86 0 6 (o_is 1 (o_il 1 (o_ic 1 (o_al 0 (o_get 5 9 9 (o_callv (d + 2) 86 0 6 (o_max (o_iadd (o_is 2 (o_ic 0 (o_is 3 (o_ic 0 (o_is 4 (fW (d + 2) kd85 K 39)))))))))))))))) : FC) [some (fx 22), none, none, none, none, none, none] [] (sh, P, nx, zl) := by
    refine used_Y (ls := la) cq29 (fun s hs => by rw [A33 P FP s hs]; exact ⟨rfl, (ha s hs).2⟩) ?_
    refine used_Y (ls := lb) cq36 (fun s hs => by rw [A40 P FP s hs]; exact ⟨rfl, (hb s hs).2⟩) ?_
    refine ⟨by omega, ?_⟩
    rw [← hh]
    have R := L39 al.toNat 0 0 [] P none none (by omega) (by omega) (by omega) (by omega) (by omega) (by rw [List.length_nil]; omega) FP VP rfl
    rw [hal] at R
    exact R
  rw [gP] at T1
  exact T1
/-- what the reference has told -/
def tmV (M : FM) (T : List (Int × Int)) : Prop := M 168 42 = T.length ∧ (∀ (j : Nat) (p : Int × Int), T[j]? = some p → M 201 j = p.1 ∧ M 202 j = p.2) ∧ ∀ s : Int, 0 ≤ s → s < 19 → M 193 (320 + s) = cnT T s
def tmF (M M2 : FM) : Prop := (∀ x : Nat, x ≠ 168 → x ≠ 193 → x ≠ 201 → x ≠ 202 → M2 x = M x) ∧ (∀ i : Int, i ≠ 42 → M2 168 i = M 168 i) ∧ ∀ i : Int, i < 320 → M2 193 i = M 193 i
theorem tmF_t {M M2 M3 : FM} (h1 : tmF M M2) (h2 : tmF M2 M3) : tmF M M3 := ⟨fun x x1 x2 x3 x4 => by rw [h2.1 x x1 x2 x3 x4, h1.1 x x1 x2 x3 x4], fun i hi => by rw [h2.2.1 i hi, h1.2.1 i hi], fun i hi => by rw [h2.2.2 i hi, h1.2.2 i hi]⟩
theorem rtell_Y {t m : Int} (hT : tmV M T) (ht : 0 ≤ t ∧ t ≤ 18) (hl : T.length < 320) (k : ∀ M2 : FM, tmF M M2 → tmV M2 (T ++ [(t, m)]) → K none (sh, M2, nx, zl)) : fm_Y (d + 1) 289 [.ref 168, .int (Int32.ofInt t), .int (Int32.ofInt m)] (sh, M, nx, zl) K := by
  obtain ⟨h1, h2, h3⟩ := hT
  refine m289 [fx 168, ti t, ti m] ?_
  refine ⟨by omega, ?_⟩
  obtain ⟨P1, g1⟩ : ∃ P1 : FM, P1 = pq M 201 (M 168 42) t := ⟨_, rfl⟩
  have e1 : P1 168 = M 168 := by rw [g1, pq_o _ _ _ (by omega)]
  have T1 : (o_al 0 (o_get 12 44 44 (o_al 0 (o_get 12 42 42 (o_il 2 (o_iast (o_al 0 (o_dup (o_get 12 42 42 (o_ic 1 (o_iadd (o_put 12 42 42 (o_al 0 (o_get 12 34 34 (o_ic 320 (o_il 1 (o_iadd (o_dup2 (o_iald (b289_41 d (fW d kd289 K) K))))))))))))))))))) : FC) [some (fx 168), some (ti t), some (ti m)] [] (sh, P1, nx, zl) := by
    refine ⟨by rw [e1]; omega, ?_⟩
    obtain ⟨P2, g2⟩ : ∃ P2 : FM, P2 = pq P1 202 (P1 168 42) m := ⟨_, rfl⟩
    have e2 : P2 168 = M 168 := by rw [g2, pq_o _ _ _ (by omega), e1]
    obtain ⟨P3, g3⟩ : ∃ P3 : FM, P3 = pq P2 168 42 (P2 168 42 + 1) := ⟨_, rfl⟩
    have e193 : P3 193 = M 193 := by rw [g3, pq_o _ _ _ (by omega), g2, pq_o _ _ _ (by omega), g1, pq_o _ _ _ (by omega)]
    have T3 : (o_al 0 (o_get 12 34 34 (o_ic 320 (o_il 1 (o_iadd (o_dup2 (o_iald (b289_41 d (fW d kd289 K) K))))))) : FC) [some (fx 168), some (ti t), some (ti m)] [] (sh, P3, nx, zl) := by
      refine ⟨by omega, ?_⟩
      refine ⟨by omega, ?_⟩
      obtain ⟨P4, g4⟩ : ∃ P4 : FM, P4 = pq P3 193 (320 + t) (P3 193 (320 + t) + 1) := ⟨_, rfl⟩
      have T4 : K none (sh, P4, nx, zl) := by
        refine k P4 ⟨fun x x1 x2 x3 x4 => by rw [g4, pq_o _ _ _ x2, g3, pq_o _ _ _ x1, g2, pq_o _ _ _ x4, g1, pq_o _ _ _ x3], fun i hi => by rw [g4, pq_o _ _ _ (by omega), g3, pq_ne _ _ _ _ hi, e2], fun i hi => by rw [g4, pq_ne _ _ _ _ (by omega), e193]⟩ ⟨?_, fun j p hj => ?_, fun s s0 s1 => ?_⟩
        · rw [g4, pq_o _ _ _ (by omega), g3, pq_at, e2, h1, List.length_append]
          rfl
        · rw [g4, pq_o _ _ _ (by omega), g3, pq_o _ _ _ (by omega), pq_o _ _ _ (by omega), pq_o _ _ _ (by omega), g2, pq_o _ _ _ (by omega), e1, g1, h1]
          rw [apG] at hj
          by_cases e : j < T.length
          · rw [if_pos e] at hj
            rw [pq_ne _ _ _ _ (by omega), pq_ne _ _ _ _ (by omega), pq_o _ _ _ (by omega)]
            exact h2 j p hj
          · rw [if_neg e] at hj
            by_cases e2 : j = T.length
            · rw [if_pos e2] at hj
              injection hj with hj
              rw [e2, pq_at, pq_at, ← hj]
              exact ⟨rfl, rfl⟩
            · rw [if_neg e2] at hj
              cases hj
        · rw [cnT_app, g4, ← h3 s s0 s1]
          show _ = _ + ((if t = s then 1 else 0) + 0)
          by_cases e : s = t
          · rw [e, pq_at, e193, if_pos rfl]
            omega
          · rw [pq_ne _ _ _ _ (by omega), e193, if_neg (fun z => e z.symm)]
            omega
      rw [g4] at T4
      exact T4
    rw [g3, g2] at T3
    exact T3
  rw [g1] at T1
  exact T1
/-- one run told, the reference -/
theorem tr67_X {v run n i : Int} (hT : tmV M T) (hv : 0 ≤ v ∧ v ≤ 15) : ∀ (g : Nat) (left : Int) (pre : List (Int × Int)) (M1 : FM) (y5 y6 : Option TV), left ≤ g → 0 ≤ left → (pre.length : Int) + left ≤ 320 → tmF M M1 → tmV M1 pre → T ++ trN v run = pre ++ trG v g left → (∀ (M2 : FM) (left : Int) (y5 y6 : Option TV), tmF M M2 → tmV M2 (T ++ trN v run) → fm_X (d + 1) kd288 7 [some (fx 168), some (ti n), some (ti i), some (ti v), some (ti left), y5, y6] [] (sh, M2, nx, zl) K) → fm_X (d + 1) kd288 67 [some (fx 168), some (ti n), some (ti i), some (ti v), some (ti left), y5, y6] [] (sh, M1, nx, zl) K := by
  -- the ones alone
  have L173 : ∀ (g : Nat) (left : Int) (pre : List (Int × Int)) (M1 : FM) (y5 y6 : Option TV), left ≤ g → 0 ≤ left → left < 3 → (pre.length : Int) + left ≤ 320 → tmF M M1 → tmV M1 pre → T ++ trN v run = pre ++ trG v g left → (∀ (M2 : FM) (left : Int) (y5 y6 : Option TV), tmF M M2 → tmV M2 (T ++ trN v run) → fm_X (d + 1) kd288 7 [some (fx 168), some (ti n), some (ti i), some (ti v), some (ti left), y5, y6] [] (sh, M2, nx, zl) K) → fm_X (d + 1) kd288 173 [some (fx 168), some (ti n), some (ti i), some (ti v), some (ti left), y5, y6] [] (sh, M1, nx, zl) K := by
    intro g
    induction g with
    | zero =>
      intro left pre M1 y5 y6 q1 q2 q3 q4 F1 h1 e k
      have e0 : pre ++ trG v 0 left = pre := List.append_nil _
      rw [e0] at e
      refine s288_173 (d + 1) K _ _ _ ?_
      exact ⟨by omega, fun _ => k M1 left y5 y6 F1 (by rw [e]; exact h1), fun z => by omega⟩
    | succ g ih =>
      intro left pre M1 y5 y6 q1 q2 q3 q4 F1 h1 e k
      have eG : trG v (g + 1) left = if left ≤ 0 then [] else if v = 0 ∧ 11 ≤ left then (18, min 138 left - 11) :: trG v g (left - min 138 left) else if v = 0 ∧ 3 ≤ left then (17, left - 3) :: trG v g 0 else if 3 ≤ left then (16, min 6 left - 3) :: trG v g (left - min 6 left) else (v, 0) :: trG v g (left - 1) := rfl
      rw [eG] at e
      refine s288_173 (d + 1) K _ _ _ ?_
      refine ⟨by omega, fun u => ?_, fun u => ?_⟩
      · rw [if_pos (by omega), List.append_nil] at e
        exact k M1 left y5 y6 F1 (by rw [e]; exact h1)
      · rw [if_neg (by omega), if_neg (by omega), if_neg (by omega), if_neg (by omega)] at e
        refine rtell_Y h1 (by omega) (by omega) (fun M2 F2 h2 => ?_)
        exact ih (left + -1) _ M2 _ _ (by omega) (by omega) (by omega) (by rw [List.length_append]; simp only [List.length_cons, List.length_nil]; omega) (tmF_t F1 F2) h2 (by rw [e, List.append_assoc]; rfl) k
  intro g
  induction g with
  | zero =>
    intro left pre M1 y5 y6 q1 q2 q3 F1 h1 e k
    have H := L173 0 left pre M1 y5 y6 q1 q2 (by omega) q3 F1 h1 e k
    refine s288_67 (d + 1) K _ _ _ ?_
    have B79 : ∀ t : Int, 3 ≤ t → t ≤ 11 → b288_79 (d + 1) (fW (d + 1) kd288 K) K [some (fx 168), some (ti n), some (ti i), some (ti v), some (ti left), y5, y6] [ti t, ti left] (sh, M1, nx, zl) := by
      intro t t1 t2
      refine ⟨by omega, fun _ => ?_, fun z => by omega⟩
      exact ⟨by omega, fun _ => H, fun _ => ⟨by omega, fun _ => H, fun z => by omega⟩⟩
    exact ⟨by omega, fun _ => B79 11 (by omega) (by omega), fun _ => B79 3 (by omega) (by omega)⟩
  | succ g ih =>
    intro left pre M1 y5 y6 q1 q2 q3 F1 h1 e k
    have eG : trG v (g + 1) left = if left ≤ 0 then [] else if v = 0 ∧ 11 ≤ left then (18, min 138 left - 11) :: trG v g (left - min 138 left) else if v = 0 ∧ 3 ≤ left then (17, left - 3) :: trG v g 0 else if 3 ≤ left then (16, min 6 left - 3) :: trG v g (left - min 6 left) else (v, 0) :: trG v g (left - 1) := rfl
    have H : left < 3 → fm_X (d + 1) kd288 173 [some (fx 168), some (ti n), some (ti i), some (ti v), some (ti left), y5, y6] [] (sh, M1, nx, zl) K := fun h3 => L173 (g + 1) left pre M1 y5 y6 q1 q2 h3 q3 F1 h1 e k
    rw [eG] at e
    -- one of many
    have GO : ∀ (t n2 mo : Int) (p : Int × Int), p = (t, n2 - mo) → 0 ≤ t → t ≤ 18 → 1 ≤ n2 → n2 ≤ left → T ++ trN v run = pre ++ p :: trG v g (left - n2) → ∀ y5 : Option TV, b288_136 (d + 1) (fW (d + 1) kd288 K) K [some (fx 168), some (ti n), some (ti i), some (ti v), some (ti left), y5, some (ti n2)] [ti mo, ti n2, ti t, fx 168] (sh, M1, nx, zl) := by
      intro t n2 mo p ep t0 t1 n0 n1 e2 y5
      rw [ep] at e2
      refine rtell_Y h1 ⟨t0, t1⟩ (by omega) (fun M2 F2 h2 => ?_)
      exact ih (left - n2) _ M2 _ _ (by omega) (by omega) (by rw [List.length_append]; simp only [List.length_cons, List.length_nil]; omega) (tmF_t F1 F2) h2 (by rw [e2, List.append_assoc]; rfl) k
    refine s288_67 (d + 1) K _ _ _ ?_
    refine ⟨by omega, fun u => ?_, fun u => ?_⟩
    · refine ⟨by omega, fun u2 => ?_, fun u2 => ?_⟩
      · refine ⟨by omega, fun z => by omega, fun _ => ?_⟩
        refine ⟨by omega, fun u3 => H (by omega), fun u3 => ?_⟩
        rw [if_neg (by omega), if_neg (by omega), if_pos (by omega)] at e
        refine rtell_Y h1 (by omega) (by omega) (fun M2 F2 h2 => ?_)
        exact L173 g 0 _ M2 _ _ (by omega) (by omega) (by omega) (by rw [List.length_append]; simp only [List.length_cons, List.length_nil]; omega) (tmF_t F1 F2) h2 (by rw [e, List.append_assoc]; rfl) k
      · rw [if_neg (by omega), if_pos (by omega)] at e
        refine ⟨by omega, fun _ => ?_, fun z => by omega⟩
        refine ⟨by omega, fun u3 => ?_, fun u3 => ?_⟩
        · refine ⟨by omega, fun _ => ?_, fun z => by omega⟩
          refine ⟨by omega, fun _ => ?_, fun z => by omega⟩
          rw [show min 138 left = 138 by omega] at e
          exact GO 18 138 11 _ rfl (by omega) (by omega) (by omega) (by omega) e _
        · refine ⟨by omega, fun _ => ?_, fun z => by omega⟩
          refine ⟨by omega, fun _ => ?_, fun z => by omega⟩
          rw [show min 138 left = left by omega] at e
          exact GO 18 left 11 _ rfl (by omega) (by omega) (by omega) (by omega) e _
    · refine ⟨by omega, fun u2 => ?_, fun u2 => ?_⟩
      · exact ⟨by omega, fun _ => H (by omega), fun z => by omega⟩
      · rw [if_neg (by omega), if_neg (by omega), if_neg (by omega), if_pos (by omega)] at e
        refine ⟨by omega, fun z => by omega, fun _ => ?_⟩
        refine ⟨by omega, fun u3 => ?_, fun u3 => ?_⟩
        · refine ⟨by omega, fun z => by omega, fun _ => ?_⟩
          refine ⟨by omega, fun z => by omega, fun _ => ?_⟩
          rw [show min 6 left = 6 by omega] at e
          exact GO 16 6 3 _ rfl (by omega) (by omega) (by omega) (by omega) e _
        · refine ⟨by omega, fun z => by omega, fun _ => ?_⟩
          refine ⟨by omega, fun z => by omega, fun _ => ?_⟩
          rw [show min 6 left = left by omega] at e
          exact GO 16 left 3 _ rfl (by omega) (by omega) (by omega) (by omega) e _
theorem tellRow_Y {r : Int → Int} {al : Int} (hal : 0 ≤ al ∧ al ≤ 316) (hr : ∀ i : Int, 0 ≤ i → i < al → M 200 i = r i ∧ 0 ≤ r i ∧ r i ≤ 15) (hz : ∀ s : Int, 0 ≤ s → s < 19 → M 193 (320 + s) = 0) (k : ∀ M2 : FM, tmF M M2 → tmV M2 (teS r al) → K none (sh, M2, nx, zl)) : fm_Y (d + 2) 288 [.ref 168, .int (Int32.ofInt al)] (sh, M, nx, zl) K := by
  refine m288 [fx 168, ti al] ?_
  obtain ⟨P, gP⟩ : ∃ P : FM, P = pq M 168 42 0 := ⟨_, rfl⟩
  have FP : tmF M P := ⟨fun x x1 _ _ _ => by rw [gP, pq_o _ _ _ x1], fun i hi => by rw [gP, pq_ne _ _ _ _ hi], fun i _ => by rw [gP, pq_o _ _ _ (by omega)]⟩
  have VP : tmV P [] := ⟨by rw [gP, pq_at]; rfl, fun j p hj => (by cases hj), fun s s0 s1 => by rw [gP, pq_o _ _ _ (by omega)]; exact hz s s0 s1⟩
  have L7 : ∀ (g : Nat) (i : Int) (pre : List (Int × Int)) (M2 : FM) (y3 y4 y5 y6 : Option TV), al - i ≤ g → 0 ≤ i → i ≤ al → (pre.length : Int) ≤ i → tmF M M2 → tmV M2 pre → teS r al = pre ++ teG r al g i → fm_X (d + 1) kd288 7 [some (fx 168), some (ti al), some (ti i), y3, y4, y5, y6] [] (sh, M2, nx, zl) K := by
    intro g
    induction g with
    | zero =>
      intro i pre M2 y3 y4 y5 y6 q1 q2 q3 q4 F2 h2 e
      have e0 : pre ++ teG r al 0 i = pre := List.append_nil _
      rw [e0] at e
      refine s288_7 (d + 1) K _ _ _ ?_
      exact ⟨by omega, fun _ => k M2 F2 (by rw [e]; exact h2), fun z => by omega⟩
    | succ g ih =>
      intro i pre M2 y3 y4 y5 y6 q1 q2 q3 q4 F2 h2 e
      have eG : teG r al (g + 1) i = if i < al then trN (r i) (rnS r al i) ++ teG r al g (i + rnS r al i) else [] := rfl
      rw [eG] at e
      have e200 : M2 200 = M 200 := F2.1 200 (by omega) (by omega) (by omega) (by omega)
      refine s288_7 (d + 1) K _ _ _ ?_
      refine ⟨by omega, fun u => ?_, fun u => ?_⟩
      · rw [if_neg (by omega), List.append_nil] at e
        exact k M2 F2 (by rw [e]; exact h2)
      · rw [if_pos u] at e
        have rb := rnS_b (r := r) u
        obtain ⟨v1, v2, v3⟩ := hr i q2 u
        refine ⟨by omega, ?_⟩
        rw [e200, v1]
        have L22 : ∀ (G : Nat) (run : Int), (al - i - run).toNat < G → 0 ≤ run → i + run ≤ al → rnS r al i = run + rnG r al (r i) (al - i - run).toNat (i + run) → fm_X (d + 1) kd288 22 [some (fx 168), some (ti al), some (ti i), some (ti (r i)), some (ti run), y5, y6] [] (sh, M2, nx, zl) K := by
          intro G
          induction G with
          | zero => intro run z; omega
          | succ G ih2 =>
            intro run p1 p2 p3 p4
            have B49 : rnS r al i = run → b288_49 (d + 1) (fW (d + 1) kd288 K) K [some (fx 168), some (ti al), some (ti i), some (ti (r i)), some (ti run), y5, y6] [] (sh, M2, nx, zl) := by
              intro er
              rw [er] at e rb
              have tl := trN_len (r i) run (by omega)
              have NX : ∀ (M3 : FM) (left : Int) (y5 y6 : Option TV), tmF M2 M3 → tmV M3 (pre ++ trN (r i) run) → fm_X (d + 1) kd288 7 [some (fx 168), some (ti al), some (ti (i + run)), some (ti (r i)), some (ti left), y5, y6] [] (sh, M3, nx, zl) K := fun M3 left y5 y6 F3 h3 => ih (i + run) _ M3 _ _ _ _ (by omega) (by omega) (by omega) (by rw [List.length_append]; omega) (tmF_t F2 F3) h3 (by rw [e, List.append_assoc])
              refine ⟨by omega, fun u => ?_, fun u => ?_⟩
              · refine tr67_X (M := M2) (T := pre) (run := run) h2 ⟨v2, v3⟩ run.toNat run pre M2 _ _ (by omega) (by omega) (by omega) ⟨fun _ _ _ _ _ => rfl, fun _ _ => rfl, fun _ _ => rfl⟩ h2 ?_ NX
                unfold trN
                rw [if_neg (by omega)]
              · refine rtell_Y h2 (by omega) (by omega) (fun M3 F3 h3 => ?_)
                refine tr67_X (M := M2) (T := pre) (run := run) h2 ⟨v2, v3⟩ run.toNat (run + -1) _ M3 _ _ (by omega) (by omega) (by rw [List.length_append]; simp only [List.length_cons, List.length_nil]; omega) F3 h3 ?_ NX
                unfold trN
                rw [if_pos (by omega), List.append_assoc]
                rfl
            refine s288_22 (d + 1) K _ _ _ ?_
            refine ⟨by omega, fun v => ?_, fun v => ?_⟩
            · refine B49 ?_
              rw [p4, rnG_0 (by omega)]
              omega
            · obtain ⟨w1, w2, w3⟩ := hr (i + run) (by omega) (by omega)
              refine ⟨by omega, ?_⟩
              rw [e200, w1]
              refine ⟨by omega, fun w => ?_, fun w => ?_⟩
              · refine B49 ?_
                rw [p4, rnG_0 (by omega)]
                omega
              · refine ih2 (run + 1) (by omega) (by omega) (by omega) ?_
                rw [p4, rnG_s (by omega) (by omega)]
                omega
        refine L22 (al + 1).toNat 0 (by omega) (by omega) (by omega) ?_
        unfold rnS
        rw [show al - i - 0 = al - i by omega, Int.add_zero]
        omega
  have R := L7 al.toNat 0 [] P none none none none (by omega) (by omega) (by omega) (by rw [List.length_nil]; omega) FP VP rfl
  rw [gP] at R
  exact R
end MTELL
