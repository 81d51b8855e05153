/-! PACKING: a part; the reference, whole -/
section MPART2
variable {d nx zl : Nat} {K : Option TV → FH → Prop} {sh : Nat → Option Shp} {M : FM} {B : List Int} {c nc : Nat} {a b e n last : Int} {f : Int → Int}
theorem tkS_ok (hb : 0 ≤ b) : ∀ t ∈ tkS f a b e, tkOK t := tkG_ok _ b hb
theorem tkS_len (hb : 0 ≤ b ∧ b ≤ e) : ((tkS f a b e).length : Int) ≤ e - b := tkG_len _ b hb.1 hb.2
theorem packPart_Y (hs : shp sh c = some (.inl (.byte, nc))) (hnc : nc ≤ 131072) (hc : c < 168 ∨ 203 < c ∨ (168 < c ∧ c < 188)) (hf : M c = f) (ha : 0 ≤ a ∧ a + e ≤ nc) (hb : 0 ≤ b ∧ b ≤ e ∧ e ≤ b + 4096 ∧ e ≤ n ∧ n ≤ 65536) (hch : ∀ t : Int, 0 ≤ t → t + 1 < n → lsP (fun t => pkP f (a + t)) t (pkP f (a + t)) (M 189 t)) (hlast : last = 0 ∨ last = 1) (hB : wbV M B) (hbd : (B.length : Int) + stT B.length (e - b) ≤ 528000)
    (k : ∀ M2 : FM, ppF M M2 → wbV M2 (ptS B f a b e last) → K none (sh, M2, nx, zl)) : fm_Y (d + 17) 275 [.ref 168, .ref c, .int (Int32.ofInt a), .int (Int32.ofInt b), .int (Int32.ofInt e), .int (Int32.ofInt last)] (sh, M, nx, zl) K := by
  have hok : ∀ t ∈ tkS f a b e, tkOK t := tkS_ok hb.1
  have hTl := tkS_len (f := f) (a := a) (b := b) (e := e) ⟨hb.1, hb.2.1⟩
  obtain ⟨T, gT⟩ : ∃ T : List (Int × Int), T = tkS f a b e := ⟨_, rfl⟩
  refine m275 [fx 168, gr c, ti a, ti b, ti e, ti last] ?_
  refine cutPart_Y hs hnc (by omega) hf ha hb hch (fun M1 F1 n1 v1 => ?_)
  rw [← gT] at hok hTl n1 v1
  refine countTokens_Y n1 (by omega) v1 hok (fun M2 F2 v2 => ?_)
  have cB := cyS_b T
  have dB := cdN_b T
  refine findLengths_Y (d := d) (n := 288) (li := 15) (fr := 0) (c := cyS T) (by omega) (by omega) (by omega) big288 (fun s s0 s1 => ?_) (fun M3 F3 G3 h3 => ?_)
  · rw [v2 (0 + s) (by omega) (by omega)]
    unfold cnA
    rw [if_pos (by omega), Int.zero_add]
    exact ⟨rfl, (cB s).1, by have := (cB s).2; omega⟩
  refine findLengths_Y (d := d) (n := 32) (li := 15) (fr := 288) (c := cdN T) (by omega) (by omega) (by omega) big32 (fun s s0 s1 => ?_) (fun M4 F4 G4 h4 => ?_)
  · rw [F3 193 (by omega) (by omega) (by omega) (by omega) (by omega), v2 (288 + s) (by omega) (by omega)]
    unfold cnA
    rw [if_neg (by omega), if_pos (by omega), show 288 + s - 288 = s by omega]
    exact ⟨rfl, (dB s).1, by have := (dB s).2; omega⟩
  have A4 : ∀ s : Nat, s < 288 → M4 194 s = laT T s := fun s hs => by
    rw [G4 _ (Or.inl (by omega))]
    have := lgF_eq h3 (x := s) (by omega) (by omega)
    rw [Int.zero_add] at this
    exact this
  have B4 : ∀ s : Nat, s < 32 → M4 194 (288 + s) = lbT T s := fun s hs => lgF_eq h4 (x := s) (by omega) (by omega)
  have hr := hTT_r hok
  have dr := dTT_r (T := T)
  have tu := tuL_r (ltT T)
  have sl := seT_len hok
  have so := seT_ok hok
  have F14 : ppF M M4 := ⟨fun x hx => by rw [F4 x (by omega) (by omega) (by omega) (by omega) (by omega), F3 x (by omega) (by omega) (by omega) (by omega) (by omega), F2 x (by omega), F1.1 x (by omega) (by omega) (by omega)], fun i i1 i2 i3 => by rw [F4 168 (by omega) (by omega) (by omega) (by omega) (by omega), F3 168 (by omega) (by omega) (by omega) (by omega) (by omega), F2 168 (by omega), F1.2 i i2]⟩
  have e31 : M4 168 31 = T.length := by
    rw [F4 168 (by omega) (by omega) (by omega) (by omega) (by omega), F3 168 (by omega) (by omega) (by omega) (by omega) (by omega), F2 168 (by omega)]
    exact n1
  have e191 : M4 191 = M1 191 := by rw [F4 191 (by omega) (by omega) (by omega) (by omega) (by omega), F3 191 (by omega) (by omega) (by omega) (by omega) (by omega), F2 191 (by omega)]
  have e192 : M4 192 = M1 192 := by rw [F4 192 (by omega) (by omega) (by omega) (by omega) (by omega), F3 192 (by omega) (by omega) (by omega) (by omega) (by omega), F2 192 (by omega)]
  have v4 : tkV (M4 191) (M4 192) T := by rw [e191, e192]; exact v1
  have e193 : ∀ s : Int, 0 ≤ s → s < 19 → M4 193 (320 + s) = 0 := fun s s0 s1 => by
    rw [F4 193 (by omega) (by omega) (by omega) (by omega) (by omega), F3 193 (by omega) (by omega) (by omega) (by omega) (by omega), v2 (320 + s) (by omega) (by omega)]
    unfold cnA
    rw [if_neg (by omega), if_neg (by omega)]
  have e188 : M4 188 = M 188 := by rw [F4 188 (by omega) (by omega) (by omega) (by omega) (by omega), F3 188 (by omega) (by omega) (by omega) (by omega) (by omega), F2 188 (by omega), F1.1 188 (by omega) (by omega) (by omega)]
  have e28 : M4 168 28 = M 168 28 := by rw [F4 168 (by omega) (by omega) (by omega) (by omega) (by omega), F3 168 (by omega) (by omega) (by omega) (by omega) (by omega), F2 168 (by omega), F1.2 28 (by omega)]
  have b4 : wbV M4 B := by
    unfold wbV at hB ⊢
    rw [e28, e188]
    exact hB
  clear F1 F2 F3 F4 G3 G4 h3 h4 v1 v2 n1 e188 e28 e191 e192
  refine needed_Y (m := 286) (ls := laT T) rfl (by omega) (by omega) (fun s hs => ?_) ?_
  · rw [Int.zero_add]
    exact ⟨A4 s (by omega), laT_b s⟩
  rw [show max 257 (usL (laT T) 286) = hTT T by unfold hTT at hr ⊢; omega]
  refine needed_Y (m := 30) (ls := lbT T) rfl (by omega) (by omega) (fun s hs => ⟨B4 s (by omega), lbT_b s⟩) ?_
  show fm_X (d + 16) kd275 62 [some (fx 168), some (gr c), some (ti a), some (ti b), some (ti e), some (ti last), some (ti (hTT T)), some (ti (dTT T)), some (ti 0), none, none, none, none, none] [] (sh, M4, nx, zl) K
  -- behind the row of lengths
  have B62 : ∀ (ki : Int) (M5 : FM), (∀ x : Nat, x ≠ 200 → M5 x = M4 x) → (∀ i : Int, 0 ≤ i → i < hTT T + dTT T → M5 200 i = hrow (laT T) (lbT T) (hTT T) i) → (o_al 0 (o_il 6 (o_il 7 (o_iadd (o_callv (d + 16) 288 1 12 (o_al 0 (o_ic 320 (o_ic 19 (o_ic 7 (o_callv (d + 16) 284 3 12 (o_ic 19 (o_is 8 (fW (d + 16) kd275 K 140)))))))))))) : FC) [some (fx 168), some (gr c), some (ti a), some (ti b), some (ti e), some (ti last), some (ti (hTT T)), some (ti (dTT T)), some (ti ki), none, none, none, none, none] [] (sh, M5, nx, zl) := by
    intro ki M5 F5 r5
    have rb := hr_b hok
    refine tellRow_Y (r := hrow (laT T) (lbT T) (hTT T)) (by omega) (fun i i0 i1 => ⟨r5 i i0 i1, rb i i0 i1⟩) (fun s s0 s1 => by rw [F5 193 (by omega)]; exact e193 s s0 s1) (fun M6 F6 t6 => ?_)
    rw [show teS (hrow (laT T) (lbT T) (hTT T)) (hTT T + dTT T) = seT T from rfl] at t6
    refine findLengths_Y (d := d + 8) (n := 19) (li := 7) (fr := 320) (c := cnT (seT T)) (by omega) (by omega) (by omega) big19 (fun s s0 s1 => ⟨t6.2.2 s s0 s1, (cnT_b (seT T) s).1, by have := (cnT_b (seT T) s).2; omega⟩) (fun M7 F7 G7 h7 => ?_)
    have t7 : ∀ x : Nat, x ≠ 194 → x ≠ 196 → x ≠ 197 → x ≠ 198 → x ≠ 199 → M7 x = M6 x := F7
    have A7 : ∀ s : Nat, s < 288 → M7 194 s = laT T s := fun s hs => by
      rw [G7 _ (Or.inl (by omega)), F6.1 194 (by omega) (by omega) (by omega) (by omega), F5 194 (by omega)]
      exact A4 s hs
    have B7 : ∀ s : Nat, s < 32 → M7 194 (288 + s) = lbT T s := fun s hs => by
      rw [G7 _ (Or.inl (by omega)), F6.1 194 (by omega) (by omega) (by omega) (by omega), F5 194 (by omega)]
      exact B4 s hs
    have C7 : ∀ s : Nat, s < 19 → M7 194 (320 + s) = ltT T s := fun s hs => lgF_eq h7 (x := s) (by omega) (by omega)
    have F17 : ppF M4 M7 := ⟨fun x hx => by rw [F7 x (by omega) (by omega) (by omega) (by omega) (by omega), F6.1 x (by omega) (by omega) (by omega) (by omega), F5 x (by omega)], fun i i1 i2 i3 => by rw [F7 168 (by omega) (by omega) (by omega) (by omega) (by omega), F6.2.1 i i3, F5 168 (by omega)]⟩
    have e168 : ∀ i : Int, i ≠ 42 → M7 168 i = M4 168 i := fun i hi => by rw [F7 168 (by omega) (by omega) (by omega) (by omega) (by omega), F6.2.1 i hi, F5 168 (by omega)]
    have e42 : M7 168 42 = (seT T).length := by
      rw [F7 168 (by omega) (by omega) (by omega) (by omega) (by omega)]
      exact t6.1
    have s7 : ∀ (j : Nat) (p : Int × Int), (seT T)[j]? = some p → M7 201 j = p.1 ∧ M7 202 j = p.2 := by
      rw [F7 201 (by omega) (by omega) (by omega) (by omega) (by omega), F7 202 (by omega) (by omega) (by omega) (by omega) (by omega)]
      exact t6.2.1
    have v7 : tkV (M7 191) (M7 192) T := by
      rw [F7 191 (by omega) (by omega) (by omega) (by omega) (by omega), F7 192 (by omega) (by omega) (by omega) (by omega) (by omega), F6.1 191 (by omega) (by omega) (by omega) (by omega), F6.1 192 (by omega) (by omega) (by omega) (by omega), F5 191 (by omega), F5 192 (by omega)]
      exact v4
    have n7 : M7 168 31 = T.length := by rw [e168 31 (by omega)]; exact e31
    have b7 : wbV M7 B := by
      unfold wbV at b4 ⊢
      rw [e168 28 (by omega), F7 188 (by omega) (by omega) (by omega) (by omega) (by omega), F6.1 188 (by omega) (by omega) (by omega) (by omega), F5 188 (by omega)]
      exact b4
    have c7 : M7 c = f := by
      rw [F17.1 c (by omega), F14.1 c (by omega)]
      exact hf
    clear F5 r5 F6 t6 F7 G7 h7 t7
    -- behind the count of tellers
    have bf := byT_b (fun s _ _ => fxA_b s) (fun s _ _ => fxB_b s) hok (by omega)
    have bm := byT_b (fun s _ _ => laT_b (T := T) s) (fun s _ _ => lbT_b (T := T) s) hok (by omega)
    have t2 := tl2_b hok
    have B171 : ∀ ci : Int, ci = tuL (ltT T) → b275_171 (d + 16) (fW (d + 16) kd275 K) K [some (fx 168), some (gr c), some (ti a), some (ti b), some (ti e), some (ti last), some (ti (hTT T)), some (ti (dTT T)), some (ti ci), none, none, none, none, none] [] (sh, M7, nx, zl) := by
      intro ci hci
      rw [hci]
      refine bitsBy_Y (c := 194) (la := laT T) (lb := lbT T) (T := T) rfl n7 (by omega) v7 hok (fun s hs => A7 s (by omega)) (fun s hs => B7 s (by omega)) ?_
      obtain ⟨X, gX⟩ : ∃ X : Int, X = 17 + 3 * tuL (ltT T) + byT (laT T) (lbT T) T := ⟨_, rfl⟩
      have L192 : ∀ (G i : Nat) (ii : Int), (((seT T).length : Int) - ii).toNat < G → ii = i → i ≤ (seT T).length → fm_X (d + 16) kd275 192 [some (fx 168), some (gr c), some (ti a), some (ti b), some (ti e), some (ti last), some (ti (hTT T)), some (ti (dTT T)), some (ti (tuL (ltT T))), some (ti (X + tlB2 (ltT T) ((seT T).take i))), some (ti ii), none, none, none] [] (sh, M7, nx, zl) K := by
        intro G
        induction G with
        | zero => intro i ii z; omega
        | succ G ih =>
          intro i ii q1 q2 q3
          refine s275_192 (d + 16) K _ _ _ ?_
          refine ⟨by omega, fun u => ?_, fun u => ?_⟩
          · rw [List.take_of_length_le (by omega)]
            have emd : X + tlB2 (ltT T) (seT T) = mdT T := by rw [gX]; rfl
            rw [emd]
            refine makeFixed_Y (fun M8 h8 F8 => ?_)
            have n8 : M8 168 = M7 168 := F8 168 (by omega)
            refine bitsBy_Y (c := 195) (la := fxA) (lb := fxB) (T := T) rfl (by rw [n8]; exact n7) (by omega) (by rw [F8 191 (by omega), F8 192 (by omega)]; exact v7) hok (fun s hs => ?_) (fun s hs => ?_) ?_
            · rw [h8 s (by omega) (by omega)]
              unfold fxR fxA
              repeat' split
              all_goals first | rfl | omega
            · rw [h8 (288 + s) (by omega) (by omega)]
              unfold fxR fxB
              rw [if_neg (by omega), if_neg (by omega), if_neg (by omega), if_neg (by omega)]
            have b8 : wbV M8 B := by
              unfold wbV at b7 ⊢
              rw [n8, F8 188 (by omega)]
              exact b7
            have e28 := b8.1.1
            have V8 : ppV M8 c f T := ⟨⟨by rw [F8 c (by omega)]; exact c7, by rw [n8]; exact n7, by rw [F8 191 (by omega), F8 192 (by omega)]; exact v7⟩, ⟨by rw [F8 194 (by omega)]; exact A7, by rw [F8 194 (by omega)]; exact B7, by rw [F8 194 (by omega)]; exact C7⟩, h8, by rw [n8]; exact e42, by rw [F8 201 (by omega), F8 202 (by omega)]; exact s7⟩
            have FIN : ∀ (y11 : Option TV) (st : Int), st = stT B.length (e - b) → b275_306 (d + 16) (fW (d + 16) kd275 K) K [some (fx 168), some (gr c), some (ti a), some (ti b), some (ti e), some (ti last), some (ti (hTT T)), some (ti (dTT T)), some (ti (tuL (ltT T))), some (ti (mdT T)), some (ti (fxT2 T)), y11, some (ti st), none] [ti last, fx 168] (sh, M8, nx, zl) := by
              intro y11 st hst
              rw [hst]
              exact pp306 hs hnc hc ha (by omega) gT hok (by omega) hlast V8 b8 hbd (fun M9 F9 b9 => k M9 (ppF_t F14 (ppF_t F17 (ppF_t ⟨fun x hx => F8 x (by omega), fun i _ _ _ => by rw [n8]⟩ (ppF_b F9)))) b9)
            have est : stT B.length (e - b) = 3 + ((8 - (B.length + 3) % 8) % 8 : Nat) + 32 + 8 * (e - b) := rfl
            refine ⟨by omega, ?_⟩
            have LS : ∀ (y11 : Int) (st : Int), st = stT B.length (e - b) → (o_is 12 (o_al 0 (o_il 5 (o_if .eq (o_ic 0 (b275_306 (d + 16) (fW (d + 16) kd275 K) K)) (o_ic 1 (b275_306 (d + 16) (fW (d + 16) kd275 K) K))))) : FC) [some (fx 168), some (gr c), some (ti a), some (ti b), some (ti e), some (ti last), some (ti (hTT T)), some (ti (dTT T)), some (ti (tuL (ltT T))), some (ti (mdT T)), some (ti (fxT2 T)), some (ti y11), none, none] [ti st] (sh, M8, nx, zl) := by
              intro y11 st hst
              have R := FIN (some (ti y11)) st hst
              refine ⟨by omega, fun w => ?_, fun w => ?_⟩
              · rw [w] at R ⊢
                exact R
              · rw [show last = 1 by omega] at R ⊢
                exact R
            refine ⟨by omega, fun w => ?_, fun w => ?_⟩
            · refine LS _ _ ?_
              omega
            · refine LS _ _ ?_
              omega
          · obtain ⟨p, hp⟩ : ∃ p : Int × Int, (seT T)[i]? = some p := ⟨_, List.getElem?_eq_getElem (by omega)⟩
            obtain ⟨x1, x2⟩ := s7 i p hp
            rw [← q2] at x1 x2
            have ok := so p (List.mem_of_getElem? hp)
            have lv := C7 p.1.toNat (by have := ok.1; omega)
            rw [show (p.1.toNat : Int) = p.1 by have := ok.1; omega] at lv
            have et : (seT T).take (i + 1) = (seT T).take i ++ [p] := by
              rw [List.take_add_one, hp]
              rfl
            have I := ih (i + 1) (ii + 1) (by omega) (by omega) (by omega)
            rw [et, tlB2_add, ← Int.add_assoc, ← Int.add_assoc] at I
            have o1 := ok.1
            refine ⟨by omega, ?_⟩
            rw [x1]
            refine ⟨by omega, ?_⟩
            rw [lv]
            refine ⟨by omega, ?_⟩
            rw [x1]
            refine stepBits_Y (by omega) ?_
            exact I
      have R := L192 ((seT T).length + 1) 0 0 (by omega) rfl (by omega)
      rw [List.take_zero, show tlB2 (ltT T) [] = 0 from rfl, Int.add_zero, gX] at R
      exact R
    have L140 : ∀ (j : Nat) (ji : Int), ji = j → j ≤ 19 → 4 ≤ ji → usL (fun i => ltT T (tel i)) 19 = usL (fun i => ltT T (tel i)) j → fm_X (d + 16) kd275 140 [some (fx 168), some (gr c), some (ti a), some (ti b), some (ti e), some (ti last), some (ti (hTT T)), some (ti (dTT T)), some (ti ji), none, none, none, none, none] [] (sh, M7, nx, zl) K := by
      intro j
      induction j with
      | zero => intro ji q1 q2 q3; omega
      | succ j ih =>
        intro ji q1 q2 q3 q4
        have eu : usL (fun i => ltT T (tel i)) (j + 1) = if 0 < ltT T (tel j) then (j : Int) + 1 else usL (fun i => ltT T (tel i)) j := rfl
        have ub := usL_b (fun i => ltT T (tel i)) j
        have ub1 := usL_b (fun i => ltT T (tel i)) (j + 1)
        have etu : tuL (ltT T) = max 4 (usL (fun i => ltT T (tel i)) 19) := rfl
        refine s275_140 (d + 16) K _ _ _ ?_
        refine ⟨by omega, fun u => B171 ji (by omega), fun u => ?_⟩
        have tr := tel_r (i := ji - 1) (by omega)
        have lv := C7 (tel (ji - 1)).toNat (by omega)
        rw [show ((tel (ji - 1)).toNat : Int) = tel (ji - 1) by omega] at lv
        have l7 := ltT_b (T := T) (tel (ji - 1))
        refine smallOrder_Y (by omega) (by omega) ?_
        refine ⟨by omega, ?_⟩
        rw [lv]
        rw [show (j : Int) = ji - 1 by omega] at eu
        refine ⟨by omega, fun v => ?_, fun v => ?_⟩
        · rw [if_pos (by omega)] at eu
          exact B171 ji (by omega)
        · rw [if_neg (by omega)] at eu
          exact ih (ji + -1) (by omega) (by omega) (by omega) (by rw [q4, eu])
    exact L140 19 19 rfl (by omega) (by omega) rfl
  have L62 : ∀ (G : Nat) (ki : Int) (M5 : FM), (hTT T + dTT T - ki).toNat < G → 0 ≤ ki → ki ≤ hTT T + dTT T → (∀ x : Nat, x ≠ 200 → M5 x = M4 x) → (∀ i : Int, 0 ≤ i → i < ki → M5 200 i = hrow (laT T) (lbT T) (hTT T) i) → fm_X (d + 16) kd275 62 [some (fx 168), some (gr c), some (ti a), some (ti b), some (ti e), some (ti last), some (ti (hTT T)), some (ti (dTT T)), some (ti ki), none, none, none, none, none] [] (sh, M5, nx, zl) K := by
    intro G
    induction G with
    | zero => intro ki M5 z; omega
    | succ G ih =>
      intro ki M5 q1 q2 q3 F5 r5
      refine s275_62 (d + 16) K _ _ _ ?_
      refine ⟨by omega, fun u => B62 ki M5 F5 (fun i i0 i1 => r5 i i0 (by omega)), fun u => ?_⟩
      have PUT : ∀ v : Int, v = hrow (laT T) (lbT T) (hTT T) ki → b275_109 (d + 16) (fW (d + 16) kd275 K) K [some (fx 168), some (gr c), some (ti a), some (ti b), some (ti e), some (ti last), some (ti (hTT T)), some (ti (dTT T)), some (ti ki), none, none, none, none, none] [ti v, ti ki, fx 200] (sh, M5, nx, zl) := by
        intro v hv
        refine ⟨by omega, ?_⟩
        obtain ⟨P, gP⟩ : ∃ P : FM, P = pq M5 200 ki v := ⟨_, rfl⟩
        have R := ih (ki + 1) P (by omega) (by omega) (by omega) (fun x hx => by rw [gP, pq_o _ _ _ hx]; exact F5 x hx) (fun i i0 i1 => by
          rw [gP]
          by_cases ei : i = ki
          · rw [ei, pq_at]
            exact hv
          · rw [pq_ne _ _ _ _ ei]
            exact r5 i i0 (by omega))
        rw [gP] at R
        exact R
      unfold hrow at PUT
      refine ⟨by omega, fun w => ?_, fun w => ?_⟩
      · rw [if_neg (by omega)] at PUT
        refine ⟨by omega, ?_⟩
        refine PUT _ ?_
        have := B4 (ki - hTT T).toNat (by omega)
        rw [show ((ki - hTT T).toNat : Int) = ki - hTT T by omega] at this
        rw [F5 194 (by omega), ← this]
        congr 1
        omega
      · rw [if_pos (by omega)] at PUT
        refine ⟨by omega, ?_⟩
        refine PUT _ ?_
        have := A4 ki.toNat (by omega)
        rw [show (ki.toNat : Int) = ki by omega] at this
        rw [F5 194 (by omega), this]
  exact L62 (hTT T + dTT T + 1).toNat 0 M4 (by omega) (by omega) (by omega) (fun _ _ => rfl) (fun i i0 i1 => by omega)
end MPART2
