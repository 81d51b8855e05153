/-! PACKING: how many bits; tellers, and the reference -/
theorem tlE_add (S : List (Int × Int)) (p : Int × Int) : tlE (S ++ [p]) = tlE S + tbE p.1 := by
  induction S with
  | nil =>
    show _ + (0 : Int) = 0 + _
    omega
  | cons u r ih =>
    show _ + tlE (r ++ [p]) = _ + tlE r + _
    rw [ih]
    omega
theorem tlB2_add (lt : Int → Int) (S : List (Int × Int)) (p : Int × Int) : tlB2 lt (S ++ [p]) = tlB2 lt S + (lt p.1 + tbE p.1) := by
  induction S with
  | nil =>
    show _ + (0 : Int) = 0 + _
    omega
  | cons u r ih =>
    show _ + tlB2 lt (r ++ [p]) = _ + tlB2 lt r + _
    rw [ih]
    omega
theorem tkBs_add (la lb : Int → Int) (T : List (Int × Int)) (t : Int × Int) : tkBs la lb (T ++ [t]) = tkBs la lb T + tkB la lb t := by
  induction T with
  | nil =>
    show _ + (0 : Int) = 0 + _
    omega
  | cons u r ih =>
    show _ + tkBs la lb (r ++ [t]) = _ + tkBs la lb r + _
    rw [ih]
    omega
/-- how many tellers' lengths are written -/
def tuL (lt : Int → Int) : Int := max 4 (usL (fun i => lt (tel i)) 19)
theorem tuL_r (lt : Int → Int) : 4 ≤ tuL lt ∧ tuL lt ≤ 19 := by
  have := usL_b (fun i => lt (tel i)) 19
  unfold tuL
  omega
/-- what a teller is -/
def ttOK (p : Int × Int) : Prop := (0 ≤ p.1 ∧ p.1 ≤ 18) ∧ 0 ≤ p.2 ∧ p.2 < 2 ^ (tbE p.1).toNat
section CBITS2
variable {d nx zl : Nat} {K : Option TV → FH → Prop} {sh : Nat → Option Shp} {M : FM}
theorem tel_r {i : Int} (h : 0 ≤ i ∧ i < 19) : 0 ≤ tel i ∧ tel i < 19 := by
  unfold tel
  repeat' split
  all_goals omega
theorem tellersUsed_Y {lt : Int → Int} (ht : ∀ i : Int, 0 ≤ i → i < 19 → M 1 i = tel i) (hl : ∀ s : Nat, s < 19 → M 47 s = lt s ∧ 0 ≤ lt s ∧ lt s ≤ 15) (k : K (some (ti (tuL lt))) (sh, M, nx, zl)) : fm_Y (d + 1) 94 [.ref 22] (sh, M, nx, zl) K := by
  refine m94 [fx 22] ?_
  have L : ∀ (G i : Nat) (ii : Int), ((19 : Int) - ii).toNat < G → ii = i → 4 ≤ i → i ≤ 19 → fm_X d kd94 4 [some (fx 22), some (ti (max 4 (usL (fun i => lt (tel i)) i))), some (ti ii)] [] (sh, M, nx, zl) K := by
    intro G
    induction G with
    | zero => intro i ii z; omega
    | succ G ih =>
      intro i ii q1 q2 q3 q4
      refine s94_4 d K _ _ _ ?_
      refine ⟨by omega, fun u => ?_, fun u => ?_⟩
      · have ei : i = 19 := by omega
        rw [ei]
        exact k
      · have tr := tel_r (i := ii) (by omega)
        obtain ⟨b1, b2, b3⟩ := hl (tel ii).toNat (by omega)
        rw [show ((tel ii).toNat : Int) = tel ii by omega] at b1 b2 b3
        have I := ih (i + 1) (ii + 1) (by omega) (by omega) (by omega) (by omega)
        have eu : usL (fun i => lt (tel i)) (i + 1) = if 0 < lt (tel i) then (i : Int) + 1 else usL (fun i => lt (tel i)) i := rfl
        rw [eu, ← q2] at I
        refine ⟨by omega, ?_⟩
        rw [ht ii (by omega) (by omega)]
        refine ⟨by omega, ?_⟩
        rw [b1]
        refine ⟨by omega, fun v => ?_, fun v => ?_⟩
        · rw [if_neg (by omega)] at I
          exact I
        · rw [if_pos (by omega), show max 4 (ii + 1) = ii + 1 by omega] at I
          exact I
  have R := L 16 4 4 (by omega) rfl (by omega) (by omega)
  have ub := usL_b (fun i => lt (tel i)) 4
  rw [show max 4 (usL (fun i => lt (tel i)) 4) = 4 by omega] at R
  exact R
theorem bitsTeller_Y {t : Int} {H : FH} (ht : 0 ≤ t ∧ t ≤ 18) (k : K (some (ti (tbE t))) H) : fm_Y (d + 1) 96 [.int (Int32.ofInt t)] H K := by
  refine m96 [ti t] ?_
  unfold tbE at k
  refine ⟨by omega, fun u => ?_, fun u => ?_⟩
  · refine ⟨by omega, fun v => ?_, fun v => ?_⟩
    · rw [if_neg (by omega)] at k
      refine ⟨by omega, fun w => ?_, fun w => ?_⟩
      · rw [if_neg (by omega), if_pos (by omega)] at k
        exact k
      · rw [if_pos (by omega)] at k
        exact k
    · rw [if_pos (by omega)] at k
      exact k
  · rw [if_neg (by omega), if_neg (by omega), if_neg (by omega)] at k
    exact k
theorem bitsTeller_E {t y : Int} {H : FH} (e : y = t) (ht : 0 ≤ t ∧ t ≤ 18) (k : K (some (ti (tbE t))) H) : fm_Y (d + 1) 96 [.int (Int32.ofInt y)] H K := by
  rw [e]
  exact bitsTeller_Y ht k
theorem stepBits_Y {t : Int} {H : FH} (ht : 0 ≤ t ∧ t ≤ 18) (k : K (some (ti (tbE t))) H) : fm_Y (d + 1) 292 [.int (Int32.ofInt t)] H K := by
  refine m292 [ti t] ?_
  unfold tbE at k
  refine ⟨by omega, fun u => ?_, fun u => ?_⟩
  · rw [if_neg (by omega)] at k
    refine ⟨by omega, fun v => ?_, fun v => ?_⟩
    · rw [if_neg (by omega)] at k
      refine ⟨by omega, fun w => ?_, fun w => ?_⟩
      · rw [if_neg (by omega)] at k
        exact k
      · rw [if_pos (by omega)] at k
        exact k
    · rw [if_pos (by omega)] at k
      exact k
  · rw [if_pos (by omega)] at k
    exact k
theorem madeBits_Y {T S : List (Int × Int)} {la lb lt : Int → Int} (hy : ∀ s : Int, 0 ≤ s → s < 286 → M 32 s = cyS T s) (hd : ∀ s : Int, 0 ≤ s → s < 30 → M 39 s = cdN T s) (hS : tdV M S) (hSo : ∀ p ∈ S, ttOK p) (hSl : S.length ≤ 320) (h1 : ∀ i : Int, 0 ≤ i → i < 19 → M 1 i = tel i) (ha : ∀ s : Nat, s < 286 → M 33 s = la s) (hb : ∀ s : Nat, s < 30 → M 40 s = lb s) (ht : ∀ s : Nat, s < 19 → M 47 s = lt s ∧ 0 ≤ lt s ∧ lt s ≤ 15)
    (k : K (some (ti (16 + 3 * tuL lt + smF (fun s => cnT S s * lt s) 19 + smF (fun s => cyS T s * la s) 286 + smF (fun s => cdN T s * lb s) 30 + tlE S))) (sh, M, nx, zl)) : fm_Y (d + 2) 93 [.ref 22] (sh, M, nx, zl) K := by
  refine m93 [fx 22] ?_
  refine tellersUsed_Y h1 ht ?_
  refine codeBits_Y (c := cnT S) (ls := lt) cq43 (fun s hs => hS.2.2 s (by omega) (by omega)) (fun s hs => (ht s hs).1) ?_
  refine codeBits_Y (c := cyS T) (ls := la) cq29 (fun s hs => hy s (by omega) (by omega)) ha ?_
  refine codeBits_Y (c := cdN T) (ls := lb) cq36 (fun s hs => hd s (by omega) (by omega)) hb ?_
  obtain ⟨X, gX⟩ : ∃ X : Int, X = 16 + 3 * tuL lt + smF (fun s => cnT S s * lt s) 19 + smF (fun s => cyS T s * la s) 286 + smF (fun s => cdN T s * lb s) 30 := ⟨_, rfl⟩
  rw [← gX] at k
  have L : ∀ (G i : Nat) (ii : Int), ((S.length : Int) - ii).toNat < G → ii = i → i ≤ S.length → fm_X (d + 1) kd93 36 [some (fx 22), some (ti (X + tlE (S.take i))), some (ti ii)] [] (sh, M, nx, zl) K := by
    intro G
    induction G with
    | zero => intro i ii z; omega
    | succ G ih =>
      intro i ii q1 q2 q3
      have e0 := hS.1
      refine s93_36 (d + 1) K _ _ _ ?_
      refine ⟨by omega, fun u => ?_, fun u => ?_⟩
      · rw [List.take_of_length_le (by omega)]
        exact k
      · obtain ⟨p, hp⟩ : ∃ p : Int × Int, S[i]? = some p := ⟨_, List.getElem?_eq_getElem (by omega)⟩
        have v := hS.2.1 i p hp
        have ok := (hSo p (List.mem_of_getElem? hp)).1
        rw [← q2] at v
        have et : S.take (i + 1) = S.take i ++ [p] := by
          rw [List.take_add_one, hp]
          rfl
        have I := ih (i + 1) (ii + 1) (by omega) (by omega) (by omega)
        rw [et, tlE_add, ← Int.add_assoc] at I
        refine ⟨by omega, ?_⟩
        rw [v]
        refine bitsTeller_E (t := p.1) (by omega) ok ?_
        exact I
  have R := L (S.length + 1) 0 0 (by omega) rfl (by omega)
  rw [List.take_zero, show tlE [] = 0 from rfl, Int.add_zero, gX] at R
  exact R
theorem needed_Y {fr n least : Int} {m : Nat} {ls : Int → Int} (hn : n = m) (hr : 0 ≤ fr ∧ fr + n ≤ 339) (hl : 0 ≤ least ∧ least ≤ n) (hv : ∀ s : Nat, s < m → M 194 (fr + s) = ls s ∧ 0 ≤ ls s ∧ ls s ≤ 15) (k : K (some (ti (max least (usL ls m)))) (sh, M, nx, zl)) : fm_Y (d + 1) 287 [.ref 168, .int (Int32.ofInt fr), .int (Int32.ofInt n), .int (Int32.ofInt least)] (sh, M, nx, zl) K := by
  refine m287 [fx 168, ti fr, ti n, ti least] ?_
  have L : ∀ (j : Nat) (ji : Int), ji = j → j ≤ m → least ≤ ji → usL ls m = usL ls j → fm_X d kd287 3 [some (fx 168), some (ti fr), some (ti n), some (ti least), some (ti ji)] [] (sh, M, nx, zl) K := by
    intro j
    induction j with
    | zero =>
      intro ji q1 q2 q3 q4
      refine s287_3 d K _ _ _ ?_
      have z : usL ls 0 = 0 := rfl
      rw [q4, z, show max least 0 = ji by omega] at k
      exact ⟨by omega, fun _ => k, fun z => by omega⟩
    | succ j ih =>
      intro ji q1 q2 q3 q4
      have eu : usL ls (j + 1) = if 0 < ls j then (j : Int) + 1 else usL ls j := rfl
      have ub := usL_b ls j
      have ub1 := usL_b ls (j + 1)
      obtain ⟨b1, b2, b3⟩ := hv j (by omega)
      refine s287_3 d K _ _ _ ?_
      refine ⟨by omega, fun u => ?_, fun u => ?_⟩
      · rw [q4, show max least (usL ls (j + 1)) = ji by omega] at k
        exact k
      · refine ⟨by omega, ?_⟩
        rw [show fr + ji - 1 = fr + j by omega, b1]
        refine ⟨by omega, fun v => ?_, fun v => ?_⟩
        · rw [if_pos (by omega)] at eu
          rw [q4, eu, show max least ((j : Int) + 1) = ji by omega] at k
          exact k
        · rw [if_neg (by omega)] at eu
          exact ih (ji + -1) (by omega) (by omega) (by omega) (by rw [q4, eu])
  exact L m n hn (Nat.le_refl _) (by omega) rfl
theorem mlenSym_0 {H : FH} (k : K (some (ti 257)) H) : fm_Y (d + 3) 278 [.int (Int32.ofInt 0)] H K := by
  refine m278 [ti 0] ?_
  refine s278_4 (d + 2) K _ _ _ ?_
  refine ⟨by omega, fun z => by omega, fun _ => ?_⟩
  refine mlengthBase_Y (by omega) (by omega) ?_
  have eb : lnB ((257 : Int) + 1) = 4 := rfl
  rw [eb]
  refine ⟨by omega, fun u => ?_, fun z => by omega⟩
  exact ⟨by omega, fun _ => k, fun z => by omega⟩
theorem mdisSym_0 {H : FH} (k : K (some (ti 0)) H) : fm_Y (d + 3) 281 [.int (Int32.ofInt 0)] H K := by
  refine m281 [ti 0] ?_
  refine s281_2 (d + 2) K _ _ _ ?_
  refine ⟨by omega, fun z => by omega, fun _ => ?_⟩
  refine mdistanceBase_Y (by omega) (by omega) ?_
  have eb : dsB ((0 : Int) + 1) = 2 := rfl
  rw [eb]
  exact ⟨by omega, fun u => k, fun z => by omega⟩
theorem bitsBy_Y {c : Nat} {T : List (Int × Int)} {la lb : Int → Int} (hs : shp sh c = some (.inl (.int, 339))) (hl : M 168 31 = T.length) (hT : T.length ≤ 4096) (hv : tkV (M 191) (M 192) T) (hok : ∀ t ∈ T, tkOK t) (ha : ∀ s : Nat, s < 286 → M c s = la s) (hb : ∀ s : Nat, s < 30 → M c (288 + s) = lb s) (k : K (some (ti (byT la lb T))) (sh, M, nx, zl)) : fm_Y (d + 4) 291 [.ref 168, .ref c] (sh, M, nx, zl) K := by
  refine m291 [fx 168, gr c] ?_
  have e256 := ha 256 (by omega)
  refine ⟨339, hs, ⟨by omega, by omega, by omega⟩, ?_⟩
  rw [show ((256 : Nat) : Int) = 256 from rfl] at e256
  rw [e256]
  have L : ∀ (G i : Nat) (ii : Int) (y4 y5 : Option TV), ((T.length : Int) - ii).toNat < G → ii = i → i ≤ T.length → fm_X (d + 3) kd291 8 [some (fx 168), some (gr c), some (ti (byT la lb (T.take i))), some (ti ii), y4, y5] [] (sh, M, nx, zl) K := by
    intro G
    induction G with
    | zero => intro i ii y4 y5 z; omega
    | succ G ih =>
      intro i ii y4 y5 q1 q2 q3
      refine s291_8 (d + 3) K _ _ _ ?_
      refine ⟨by omega, fun u => ?_, fun u => ?_⟩
      · rw [List.take_of_length_le (by omega)]
        exact k
      · obtain ⟨t, ht⟩ : ∃ t : Int × Int, T[i]? = some t := ⟨_, List.getElem?_eq_getElem (by omega)⟩
        obtain ⟨v1, v2⟩ := hv i t ht
        rw [← q2] at v1 v2
        have ok := hok t (List.mem_of_getElem? ht)
        have et : T.take (i + 1) = T.take i ++ [t] := by
          rw [List.take_add_one, ht]
          rfl
        have I := fun y4 y5 => ih (i + 1) (ii + 1) y4 y5 (by omega) (by omega) (by omega)
        have eb : byT la lb (T.take i ++ [t]) = byT la lb (T.take i) + tkB la lb t := by
          unfold byT
          rw [tkBs_add]
          omega
        rw [et, eb] at I
        unfold tkB at I
        refine ⟨by omega, ?_⟩
        rw [v1]
        rcases ok with ⟨o1, o2, o3⟩ | ⟨o1, o2⟩
        · rw [if_pos o1] at I
          rw [o1]
          refine mlenSym_0 ?_
          refine ⟨by omega, ?_⟩
          rw [v2]
          have FIN : ∀ s : Int, (o_is 5 (o_il 2 (o_al 0 (o_get 12 32 32 (o_il 3 (o_iald (o_if .ne (o_al 1 (o_il 4 (o_iald (b291_63 (d + 3) (fW (d + 3) kd291 K) K)))) (o_al 1 (o_al 0 (o_get 12 33 33 (b291_53 (d + 3) (fW (d + 3) kd291 K) K)))))))))) : FC) [some (fx 168), some (gr c), some (ti (byT la lb (T.take i))), some (ti ii), some (ti 257), y5] [ti s] (sh, M, nx, zl) := by
            intro s
            refine ⟨by omega, ?_⟩
            rw [v1, o1]
            refine ⟨by omega, fun z => by omega, fun _ => ?_⟩
            refine ⟨by omega, ?_⟩
            rw [v2]
            have la2 := ha t.2.toNat (by omega)
            rw [show (t.2.toNat : Int) = t.2 by omega] at la2
            refine ⟨339, hs, ⟨by omega, by omega, by omega⟩, ?_⟩
            rw [la2]
            exact I _ _
          by_cases z : t.2 = 0
          · rw [z]
            refine mdisSym_0 ?_
            exact FIN 0
          · refine mdisSym_Y (by omega) ?_
            exact FIN _
        · rw [if_neg (by omega)] at I
          have l1 := lnY_r o1
          have d1 := dsY_r o2
          have e1 := (eLn_M o1).1
          have e2 := (eDs_M o2).1
          have la2 := ha (lnY t.1).toNat (by omega)
          rw [show ((lnY t.1).toNat : Int) = lnY t.1 by omega] at la2
          have lb2 := hb (dsY t.2).toNat (by omega)
          rw [show ((dsY t.2).toNat : Int) = dsY t.2 by omega] at lb2
          refine mlenSym_Y o1 ?_
          refine ⟨by omega, ?_⟩
          rw [v2]
          refine mdisSym_Y o2 ?_
          refine ⟨by omega, ?_⟩
          rw [v1]
          refine ⟨by omega, fun _ => ?_, fun z => by omega⟩
          refine ⟨339, hs, ⟨by omega, by omega, by omega⟩, ?_⟩
          rw [la2]
          refine mlengthBits_Y (by omega) (by omega) ?_
          rw [e1]
          refine ⟨339, hs, ⟨by omega, by omega, by omega⟩, ?_⟩
          rw [lb2]
          refine mdistanceBits_Y (by omega) (by omega) ?_
          rw [e2]
          exact I _ _
  have R := L (T.length + 1) 0 0 none none (by omega) rfl (by omega)
  rw [List.take_zero, show byT la lb [] = la 256 + 0 from rfl, Int.add_zero] at R
  exact R
end CBITS2
