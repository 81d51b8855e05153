/-! PACKING: lengths told in runs; the class -/
/-- what is told of `left` lengths v that follow one told -/
def trG (v : Int) : Nat → Int → List (Int × Int)
  | 0, _ => []
  | g + 1, left => if left ≤ 0 then [] else if v = 0 ∧ 11 ≤ left then (18, min 138 left - 11) :: trG v g (left - min 138 left) else if v = 0 ∧ 3 ≤ left then (17, left - 3) :: trG v g 0 else if 3 ≤ left then (16, min 6 left - 3) :: trG v g (left - min 6 left) else (v, 0) :: trG v g (left - 1)
def trN (v run : Int) : List (Int × Int) := if 0 < v then (v, 0) :: trG v run.toNat (run - 1) else trG v run.toNat run
/-- how many from j on are v -/
def rnG (r : Int → Int) (al v : Int) : Nat → Int → Int
  | 0, _ => 0
  | g + 1, j => if j < al ∧ r j = v then 1 + rnG r al v g (j + 1) else 0
def rnS (r : Int → Int) (al i : Int) : Int := rnG r al (r i) (al - i).toNat i
def teG (r : Int → Int) (al : Int) : Nat → Int → List (Int × Int)
  | 0, _ => []
  | g + 1, i => if i < al then trN (r i) (rnS r al i) ++ teG r al g (i + rnS r al i) else []
def teS (r : Int → Int) (al : Int) : List (Int × Int) := teG r al al.toNat 0
def cnT : List (Int × Int) → Int → Int
  | [], _ => 0
  | p :: r, s => (if p.1 = s then 1 else 0) + cnT r s
theorem cnT_app (A B : List (Int × Int)) (s : Int) : cnT (A ++ B) s = cnT A s + cnT B s := by
  induction A with
  | nil =>
    show cnT B s = 0 + cnT B s
    omega
  | cons a A ih =>
    show (if a.1 = s then 1 else 0) + cnT (A ++ B) s = (if a.1 = s then 1 else 0) + cnT A s + cnT B s
    omega
theorem cnT_b (A : List (Int × Int)) (s : Int) : 0 ≤ cnT A s ∧ cnT A s ≤ A.length := by
  induction A with
  | nil =>
    show (0 : Int) ≤ 0 ∧ (0 : Int) ≤ ((0 : Nat) : Int)
    omega
  | cons a A ih =>
    show 0 ≤ (if a.1 = s then 1 else 0) + cnT A s ∧ (if a.1 = s then 1 else 0) + cnT A s ≤ ((A.length + 1 : Nat) : Int)
    split <;> omega
theorem trG_len (v : Int) : ∀ (g : Nat) (left : Int), 0 ≤ left → ((trG v g left).length : Int) ≤ left
  | 0, left, h => h
  | g + 1, left, h => by
    unfold trG
    by_cases e : left ≤ 0
    · rw [if_pos e]
      exact h
    · rw [if_neg e]
      split
      · have := trG_len v g (left - min 138 left) (by omega)
        rw [List.length_cons]
        omega
      · split
        · have := trG_len v g 0 (by omega)
          rw [List.length_cons]
          omega
        · split
          · have := trG_len v g (left - min 6 left) (by omega)
            rw [List.length_cons]
            omega
          · have := trG_len v g (left - 1) (by omega)
            rw [List.length_cons]
            omega
theorem trN_len (v run : Int) (h : 1 ≤ run) : ((trN v run).length : Int) ≤ run := by
  unfold trN
  split
  · have := trG_len v run.toNat (run - 1) (by omega)
    rw [List.length_cons]
    omega
  · exact trG_len v run.toNat run (by omega)
/-- with more steps it is the same -/
theorem trG_more (v : Int) : ∀ (g g2 : Nat) (left : Int), left ≤ g → left ≤ g2 → trG v g left = trG v g2 left
  | 0, 0, _, _, _ => rfl
  | 0, g2 + 1, left, h1, _ => by
    unfold trG
    rw [if_pos (by omega)]
  | g + 1, 0, left, _, h2 => by
    unfold trG
    rw [if_pos (by omega)]
  | g + 1, g2 + 1, left, h1, h2 => by
    unfold trG
    by_cases e : left ≤ 0
    · rw [if_pos e, if_pos e]
    · rw [if_neg e, if_neg e, trG_more v g g2 (left - min 138 left) (by omega) (by omega), trG_more v g g2 0 (by omega) (by omega), trG_more v g g2 (left - min 6 left) (by omega) (by omega), trG_more v g g2 (left - 1) (by omega) (by omega)]
theorem rnG_b (r : Int → Int) (al v : Int) : ∀ (g : Nat) (j : Int), al - j ≤ g → 0 ≤ rnG r al v g j ∧ (j ≤ al → j + rnG r al v g j ≤ al)
  | 0, j, h => by
    show (0 : Int) ≤ 0 ∧ (j ≤ al → j + 0 ≤ al)
    omega
  | g + 1, j, h => by
    unfold rnG
    split
    · have := rnG_b r al v g (j + 1) (by omega)
      omega
    · omega
theorem rnS_b {r : Int → Int} {al i : Int} (h : i < al) : 1 ≤ rnS r al i ∧ i + rnS r al i ≤ al := by
  unfold rnS
  obtain ⟨g, e⟩ : ∃ g : Nat, (al - i).toNat = g + 1 := ⟨(al - i).toNat - 1, by omega⟩
  rw [e]
  have e2 : rnG r al (r i) (g + 1) i = if i < al ∧ r i = r i then 1 + rnG r al (r i) g (i + 1) else 0 := rfl
  have := rnG_b r al (r i) g (i + 1) (by omega)
  rw [e2, if_pos ⟨h, rfl⟩]
  omega
theorem teG_len (r : Int → Int) (al : Int) : ∀ (g : Nat) (i : Int), i ≤ al → ((teG r al g i).length : Int) ≤ al - i
  | 0, i, h => by
    show (0 : Int) ≤ al - i
    omega
  | g + 1, i, h => by
    unfold teG
    by_cases e : i < al
    · rw [if_pos e, List.length_append]
      have b := rnS_b (r := r) e
      have := teG_len r al g (i + rnS r al i) (by omega)
      have := trN_len (r i) (rnS r al i) (by omega)
      omega
    · rw [if_neg e]
      show (0 : Int) ≤ al - i
      omega
/-- the last that has a length, and one more -/
def usL (ls : Int → Int) : Nat → Int
  | 0 => 0
  | n + 1 => if 0 < ls n then (n : Int) + 1 else usL ls n
theorem usL_b (ls : Int → Int) : ∀ n : Nat, 0 ≤ usL ls n ∧ usL ls n ≤ n
  | 0 => by
    show (0 : Int) ≤ 0 ∧ (0 : Int) ≤ ((0 : Nat) : Int)
    omega
  | n + 1 => by
    have := usL_b ls n
    unfold usL
    split <;> omega
/-- the lengths of symbols, and behind them those of distances -/
def hrow (la lb : Int → Int) (h : Int) (i : Int) : Int := if i < h then la i else lb (i - h)
section TELL
variable {d nx zl : Nat} {K : Option TV → FH → Prop} {sh : Nat → Option Shp} {M : FM} {T : List (Int × Int)}
/-- what the class has told -/
def tdV (M : FM) (T : List (Int × Int)) : Prop := M 22 14 = T.length ∧ (∀ (j : Nat) (p : Int × Int), T[j]? = some p → M 64 j = 32 * p.2 + p.1) ∧ ∀ s : Int, 0 ≤ s → s < 19 → M 46 s = cnT T s
def tdF (M M2 : FM) : Prop := (∀ x : Nat, x ≠ 22 → x ≠ 46 → x ≠ 64 → M2 x = M x) ∧ ∀ i : Int, i ≠ 14 → M2 22 i = M 22 i
theorem tdF_t {M M2 M3 : FM} (h1 : tdF M M2) (h2 : tdF M2 M3) : tdF M M3 := ⟨fun x x1 x2 x3 => by rw [h2.1 x x1 x2 x3, h1.1 x x1 x2 x3], fun i hi => by rw [h2.2 i hi, h1.2 i hi]⟩
theorem tdF_r (M : FM) : tdF M M := ⟨fun _ _ _ _ => rfl, fun _ _ => rfl⟩
theorem tellOne_Y {t m : Int} (hT : tdV M T) (ht : 0 ≤ t ∧ t ≤ 18) (hm : 0 ≤ m ∧ m ≤ 127) (hl : T.length < 320) (k : ∀ M2 : FM, tdF M M2 → tdV M2 (T ++ [(t, m)]) → K none (sh, M2, nx, zl)) : fm_Y (d + 1) 89 [.ref 22, .int (Int32.ofInt t), .int (Int32.ofInt m)] (sh, M, nx, zl) K := by
  obtain ⟨h1, h2, h3⟩ := hT
  refine m89 [fx 22, ti t, ti m] ?_
  refine ⟨_, i32_or2 (k := 5) (by omega) rfl rfl (by omega) (by omega), ?_⟩
  refine ⟨by omega, ?_⟩
  refine ⟨by omega, ?_⟩
  refine ⟨by omega, ?_⟩
  obtain ⟨P1, g1⟩ : ∃ P1 : FM, P1 = pq M 64 (M 22 14) (t + m * 32) := ⟨_, rfl⟩
  obtain ⟨P2, g2⟩ : ∃ P2 : FM, P2 = pq P1 22 14 (P1 22 14 + 1) := ⟨_, rfl⟩
  obtain ⟨P3, g3⟩ : ∃ P3 : FM, P3 = pq P2 46 t (P2 46 t + 1) := ⟨_, rfl⟩
  have e22 : P1 22 = M 22 := by rw [g1, pq_o _ _ _ (by omega)]
  have e46 : P2 46 = M 46 := by rw [g2, pq_o _ _ _ (by omega), g1, pq_o _ _ _ (by omega)]
  have T3 : K none (sh, P3, nx, zl) := by
    refine k P3 ⟨fun x x1 x2 x3 => by rw [g3, pq_o _ _ _ x2, g2, pq_o _ _ _ x1, g1, pq_o _ _ _ x3], fun i hi => by rw [g3, pq_o _ _ _ (by omega), g2, pq_ne _ _ _ _ hi, e22]⟩ ⟨?_, fun j p hj => ?_, fun s s0 s1 => ?_⟩
    · rw [g3, pq_o _ _ _ (by omega), g2, pq_at, e22, h1, List.length_append]
      rfl
    · rw [g3, pq_o _ _ _ (by omega), g2, pq_o _ _ _ (by omega), g1, h1]
      rw [apG] at hj
      by_cases e : j < T.length
      · rw [if_pos e] at hj
        rw [pq_ne _ _ _ _ (by omega)]
        exact h2 j p hj
      · rw [if_neg e] at hj
        by_cases e2 : j = T.length
        · rw [if_pos e2] at hj
          injection hj with hj
          rw [e2, pq_at, ← hj]
          show _ = 32 * m + t
          omega
        · rw [if_neg e2] at hj
          cases hj
    · rw [cnT_app, g3, ← h3 s s0 s1]
      show _ = _ + ((if t = s then 1 else 0) + 0)
      by_cases e : s = t
      · rw [e, pq_at, e46, if_pos rfl]
        omega
      · rw [pq_ne _ _ _ _ e, e46, if_neg (fun z => e z.symm)]
        omega
  rw [g3, g2, g1] at T3
  exact T3
theorem tellRun_Y {v run : Int} (hT : tdV M T) (hv : 0 ≤ v ∧ v ≤ 15) (hr : 1 ≤ run) (hl : (T.length : Int) + run ≤ 320) (k : ∀ M2 : FM, tdF M M2 → tdV M2 (T ++ trN v run) → K none (sh, M2, nx, zl)) : fm_Y (d + 2) 88 [.ref 22, .int (Int32.ofInt v), .int (Int32.ofInt run)] (sh, M, nx, zl) K := by
  refine m88 [fx 22, ti v, ti run] ?_
  have L : ∀ (g : Nat) (left ki : Int) (pre : List (Int × Int)) (M1 : FM) (y5 : Option TV), left ≤ g → 0 ≤ left → 0 ≤ ki → ki + left ≤ 320 → (pre.length : Int) + left ≤ 320 → tdF M M1 → tdV M1 pre → T ++ trN v run = pre ++ trG v g left → fm_X (d + 1) kd88 18 [some (fx 22), some (ti v), some (ti run), some (ti left), some (ti ki), y5] [] (sh, M1, nx, zl) K := by
    intro g
    induction g with
    | zero =>
      intro left ki pre M1 y5 q1 q2 q3 q4 q5 F1 h1 e
      have e0 : pre ++ trG v 0 left = pre := List.append_nil _
      rw [e0] at e
      have KK : b88_134 (d + 1) (fW (d + 1) kd88 K) K [some (fx 22), some (ti v), some (ti run), some (ti left), some (ti ki), y5] [] (sh, M1, nx, zl) := k M1 F1 (by rw [e]; exact h1)
      refine s88_18 (d + 1) K _ _ _ ?_
      exact ⟨by omega, fun _ => KK, fun _ => ⟨by omega, fun _ => KK, fun z => by omega⟩⟩
    | succ g ih =>
      intro left ki pre M1 y5 q1 q2 q3 q4 q5 F1 h1 e
      have eG : trG v (g + 1) left = if left ≤ 0 then [] else if v = 0 ∧ 11 ≤ left then (18, min 138 left - 11) :: trG v g (left - min 138 left) else if v = 0 ∧ 3 ≤ left then (17, left - 3) :: trG v g 0 else if 3 ≤ left then (16, min 6 left - 3) :: trG v g (left - min 6 left) else (v, 0) :: trG v g (left - 1) := rfl
      rw [eG] at e
      by_cases c0 : left ≤ 0
      · rw [if_pos c0, List.append_nil] at e
        have KK : b88_134 (d + 1) (fW (d + 1) kd88 K) K [some (fx 22), some (ti v), some (ti run), some (ti left), some (ti ki), y5] [] (sh, M1, nx, zl) := k M1 F1 (by rw [e]; exact h1)
        refine s88_18 (d + 1) K _ _ _ ?_
        exact ⟨by omega, fun _ => KK, fun _ => ⟨by omega, fun _ => KK, fun z => by omega⟩⟩
      · rw [if_neg c0] at e
        refine s88_18 (d + 1) K _ _ _ ?_
        refine ⟨by omega, fun z => by omega, fun _ => ?_⟩
        refine ⟨by omega, fun z => by omega, fun _ => ?_⟩
        -- one is told
        have GO : ∀ (n left2 : Int) (p : Int × Int), left2 = left - n → 1 ≤ n → n ≤ left → T ++ trN v run = pre ++ p :: trG v g left2 → ∀ M2 : FM, tdF M1 M2 → tdV M2 (pre ++ [p]) → b88_123 (d + 1) (fW (d + 1) kd88 K) K [some (fx 22), some (ti v), some (ti run), some (ti left), some (ti ki), some (ti n)] [] (sh, M2, nx, zl) := by
          intro n left2 p w1 w2 w3 w4 M2 F2 h2
          rw [w1] at w4
          exact ih (left - n) (ki + 1) (pre ++ [p]) M2 _ (by omega) (by omega) (by omega) (by omega) (by rw [List.length_append]; simp only [List.length_cons, List.length_nil]; omega) (tdF_t F1 F2) h2 (by rw [w4, List.append_assoc]; rfl)
        have B91 : ¬(v = 0 ∧ 3 ≤ left) → b88_91 (d + 1) (fW (d + 1) kd88 K) K [some (fx 22), some (ti v), some (ti run), some (ti left), some (ti ki), some (ti 1)] [] (sh, M1, nx, zl) := by
          intro c3
          rw [if_neg (by omega), if_neg c3] at e
          refine ⟨by omega, fun u => ?_, fun u => ?_⟩
          · rw [if_neg (by omega)] at e
            refine tellOne_Y h1 (by omega) (by omega) (by omega) (fun M2 F2 h2 => ?_)
            exact GO 1 _ _ rfl (by omega) (by omega) e M2 F2 h2
          · rw [if_pos (by omega)] at e
            refine ⟨by omega, ?_⟩
            refine tellOne_Y h1 (by omega) (by omega) (by omega) (fun M2 F2 h2 => ?_)
            exact GO _ _ _ rfl (by omega) (by omega) e M2 F2 h2
        have B66 : ¬(v = 0 ∧ 11 ≤ left) → b88_66 (d + 1) (fW (d + 1) kd88 K) K [some (fx 22), some (ti v), some (ti run), some (ti left), some (ti ki), some (ti 1)] [] (sh, M1, nx, zl) := by
          intro c2
          refine ⟨by omega, fun u => B91 (by omega), fun u => ?_⟩
          refine ⟨by omega, fun u2 => B91 (by omega), fun u2 => ?_⟩
          rw [if_neg c2, if_pos (by omega)] at e
          refine tellOne_Y h1 (by omega) (by omega) (by omega) (fun M2 F2 h2 => ?_)
          exact GO left _ _ (by omega) (by omega) (by omega) e M2 F2 h2
        refine ⟨by omega, fun u => B66 (by omega), fun u => ?_⟩
        refine ⟨by omega, fun u2 => B66 (by omega), fun u2 => ?_⟩
        rw [if_pos (by omega)] at e
        refine ⟨by omega, ?_⟩
        refine tellOne_Y h1 (by omega) (by omega) (by omega) (fun M2 F2 h2 => ?_)
        exact GO _ _ _ rfl (by omega) (by omega) e M2 F2 h2
  have ru : run ≤ 320 := by omega
  refine ⟨by omega, fun u => ?_, fun u => ?_⟩
  · refine L run.toNat run 0 T M none (by omega) (by omega) (by omega) (by omega) hl (tdF_r M) hT ?_
    unfold trN
    rw [if_neg (by omega)]
  · refine tellOne_Y hT (by omega) (by omega) (by omega) (fun M2 F2 h2 => ?_)
    refine L run.toNat (run + -1) 0 (T ++ [(v, 0)]) M2 none (by omega) (by omega) (by omega) (by omega) (by rw [List.length_append]; simp only [List.length_cons, List.length_nil]; omega) F2 h2 ?_
    unfold trN
    rw [if_pos (by omega), List.append_assoc]
    rfl
theorem used_Y {q c0 c1 c2 c4 c5 n : Nat} {ls : Int → Int} (hq : cqS sh q c0 c1 c2 c4 c5 n) (hl : ∀ s : Nat, s < n → M c1 s = ls s ∧ 0 ≤ ls s ∧ ls s ≤ 15) (k : K (some (ti (usL ls n))) (sh, M, nx, zl)) : fm_Y (d + 1) 86 [.ref q] (sh, M, nx, zl) K := by
  obtain ⟨⟨c3, hs⟩, ⟨s0, s1, s2, s4, s5⟩, -, -, hn⟩ := hq
  refine m86 [gr q] ?_
  have L : ∀ (G s : Nat) (si : Int), ((n : Int) - si).toNat < G → si = s → s ≤ n → fm_X d kd86 4 [some (gr q), some (ti (usL ls s)), some (ti si)] [] (sh, M, nx, zl) K := by
    intro G
    induction G with
    | zero => intro s si z; omega
    | succ G ih =>
      intro s si q1 q2 q3
      refine s86_4 d K _ _ _ ?_
      refine ⟨_, hs, ?_⟩
      refine ⟨_, _, s1, ?_⟩
      refine ⟨by omega, fun u => ?_, fun u => ?_⟩
      · rw [show s = n by omega]
        exact k
      · obtain ⟨b1, b2, b3⟩ := hl s (by omega)
        have e1 : M c1 si = ls s := by rw [q2]; exact b1
        have eu : usL ls (s + 1) = if 0 < ls s then (s : Int) + 1 else usL ls s := rfl
        have I := ih (s + 1) (si + 1) (by omega) (by omega) (by omega)
        rw [eu] at I
        refine ⟨_, hs, ?_⟩
        refine ⟨n, s1, ⟨by omega, by omega, by omega⟩, ?_⟩
        rw [e1]
        refine ⟨by omega, fun v => ?_, fun v => ?_⟩
        · rw [if_neg (by omega)] at I
          exact I
        · rw [if_pos (by omega), ← q2] at I
          exact I
  exact L (n + 1) 0 0 (by omega) rfl (by omega)
theorem lengthAt_Y {la lb : Int → Int} {h i : Int} (ha : ∀ s : Nat, s < 286 → M 33 s = la s) (hb : ∀ s : Nat, s < 30 → M 40 s = lb s) (hh : 0 ≤ h ∧ h ≤ 286) (hi : 0 ≤ i ∧ i < h + 30) (k : K (some (ti (hrow la lb h i))) (sh, M, nx, zl)) : fm_Y (d + 1) 87 [.ref 22, .int (Int32.ofInt i), .int (Int32.ofInt h)] (sh, M, nx, zl) K := by
  refine m87 [fx 22, ti i, ti h] ?_
  unfold hrow at k
  refine ⟨by omega, fun u => ?_, fun u => ?_⟩
  · rw [if_neg (by omega)] at k
    refine ⟨by omega, ?_⟩
    have e := hb (i - h).toNat (by omega)
    rw [show ((i - h).toNat : Int) = i - h by omega] at e
    rw [e]
    exact k
  · rw [if_pos (by omega)] at k
    refine ⟨by omega, ?_⟩
    have e := ha i.toNat (by omega)
    rw [show (i.toNat : Int) = i by omega] at e
    rw [e]
    exact k
end TELL
