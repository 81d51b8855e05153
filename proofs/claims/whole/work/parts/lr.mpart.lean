/-! PACKING: a part; the reference -/
section MPART
variable {d nx zl : Nat} {K : Option TV → FH → Prop} {sh : Nat → Option Shp} {M : FM} {B : List Int} {T : List (Int × Int)} {c nc : Nat} {a b e last : Int} {f : Int → Int}
/-- what packing a part leaves, the reference -/
def ppF (M M2 : FM) : Prop := (∀ x : Nat, (x < 168 ∨ 203 < x ∨ (168 < x ∧ x < 188) ∨ (188 < x ∧ x < 191)) → M2 x = M x) ∧ ∀ i : Int, i ≠ 28 → i ≠ 31 → i ≠ 42 → M2 168 i = M 168 i
theorem ppF_t {M M2 M3 : FM} (h1 : ppF M M2) (h2 : ppF M2 M3) : ppF M M3 := ⟨fun x hx => by rw [h2.1 x hx, h1.1 x hx], fun i i1 i2 i3 => by rw [h2.2 i i1 i2 i3, h1.2 i i1 i2 i3]⟩
theorem ppF_b {M M2 : FM} (h : wtF M M2) : ppF M M2 := ⟨fun x hx => h.1 x (by omega) (by omega) (by omega), fun i i1 _ _ => h.2 i i1⟩
/-- all that the choice needs -/
def ppV (M : FM) (c : Nat) (f : Int → Int) (T : List (Int × Int)) : Prop := (M c = f ∧ M 168 31 = T.length ∧ tkV (M 191) (M 192) T) ∧ ((∀ s : Nat, s < 288 → M 194 s = laT T s) ∧ (∀ s : Nat, s < 32 → M 194 (288 + s) = lbT T s) ∧ ∀ s : Nat, s < 19 → M 194 (320 + s) = ltT T s) ∧ (∀ q : Int, 0 ≤ q → q < 320 → M 195 q = fxR q) ∧ M 168 42 = (seT T).length ∧ ∀ (j : Nat) (p : Int × Int), (seT T)[j]? = some p → M 201 j = p.1 ∧ M 202 j = p.2
theorem ppV_w {M M2 : FM} (hc : c < 168 ∨ 203 < c ∨ (168 < c ∧ c < 188)) (h : ppV M c f T) (w : wtF M M2) : ppV M2 c f T := by
  unfold ppV at *
  rw [w.1 c (by omega) (by omega) (by omega), w.1 191 (by omega) (by omega) (by omega), w.1 192 (by omega) (by omega) (by omega), w.1 194 (by omega) (by omega) (by omega), w.1 195 (by omega) (by omega) (by omega), w.1 201 (by omega) (by omega) (by omega), w.1 202 (by omega) (by omega) (by omega), w.2 31 (by omega), w.2 42 (by omega)]
  exact h
theorem pp306 {y11 : Option TV} (hs : shp sh c = some (.inl (.byte, nc))) (hnc : nc ≤ 131072) (hc : c < 168 ∨ 203 < c ∨ (168 < c ∧ c < 188)) (ha : 0 ≤ a ∧ a + e ≤ nc) (hb : 0 ≤ b ∧ b ≤ e ∧ e ≤ b + 4096 ∧ e ≤ 65536) (hT : T = tkS f a b e) (hok : ∀ t ∈ T, tkOK t) (hTl : T.length ≤ 4096) (hlast : last = 0 ∨ last = 1) (hV : ppV M c f T) (hB : wbV M B) (hbd : (B.length : Int) + stT B.length (e - b) ≤ 528000)
    (k : ∀ M2 : FM, wtF M M2 → wbV M2 (ptS B f a b e last) → K none (sh, M2, nx, zl)) : b275_306 (d + 16) (fW (d + 16) kd275 K) K [some (fx 168), some (gr c), some (ti a), some (ti b), some (ti e), some (ti last), some (ti (hTT T)), some (ti (dTT T)), some (ti (tuL (ltT T))), some (ti (mdT T)), some (ti (fxT2 T)), y11, some (ti (stT B.length (e - b))), none] [ti last, fx 168] (sh, M, nx, zl) := by
  have hr := hTT_r hok
  have dr := dTT_r (T := T)
  have tu := tuL_r (ltT T)
  have sl := seT_len hok
  have so := seT_ok hok
  have t2 := tl2_b hok
  have bf := byT_b (fun s _ _ => fxA_b s) (fun s _ _ => fxB_b s) hok hTl
  have bm := byT_b (fun s _ _ => laT_b (T := T) s) (fun s _ _ => lbT_b (T := T) s) hok hTl
  have lt15 : ∀ s : Int, 0 ≤ s → s < 19 → 0 ≤ ltT T s ∧ ltT T s ≤ 15 := fun s _ _ => by have := ltT_b (T := T) s; omega
  have eP : ptS B f a b e last = if stT B.length (e - b) ≤ fxT2 T ∧ stT B.length (e - b) ≤ mdT T then padB (B ++ [last] ++ nbL 0 2) ++ nbL (e - b) 16 ++ nbL (65535 - (e - b)) 16 ++ sbL f (a + b) (e - b).toNat else if fxT2 T ≤ mdT T then B ++ [last] ++ nbL 1 2 ++ tksL fxA 288 fxB 32 T else B ++ [last] ++ hdL (ltT T) (seT T) (hTT T) (dTT T) ++ tksL (laT T) 288 (lbT T) 32 T := by
    rw [hT]
    rfl
  rw [eP] at k
  have emd : mdT T = 17 + 3 * tuL (ltT T) + byT (laT T) (lbT T) T + tlB2 (ltT T) (seT T) := rfl
  have epl : fxT2 T = 3 + byT fxA fxB T := rfl
  have est : stT B.length (e - b) = 3 + ((8 - (B.length + 3) % 8) % 8 : Nat) + 32 + 8 * (e - b) := rfl
  obtain ⟨st, gst⟩ : ∃ st : Int, st = stT B.length (e - b) := ⟨_, rfl⟩
  obtain ⟨md, gmd⟩ : ∃ md : Int, md = mdT T := ⟨_, rfl⟩
  obtain ⟨pl, gpl⟩ : ∃ pl : Int, pl = fxT2 T := ⟨_, rfl⟩
  rw [← gst] at hbd est k ⊢
  rw [← gmd] at emd k ⊢
  rw [← gpl] at epl k ⊢
  refine writeBit_Y hB hlast (by omega) (fun M1 F1 b1 => ?_)
  have l1 : (B ++ [last]).length = B.length + 1 := by rw [List.length_append]; rfl
  obtain ⟨C, gC⟩ : ∃ C : List Int, C = B ++ [last] := ⟨_, rfl⟩
  rw [← gC] at b1 l1 k
  have W1 := wtF_b F1
  have V1 := ppV_w hc hV W1
  -- not stored
  have B392 : ¬(st ≤ pl ∧ st ≤ md) → b275_392 (d + 16) (fW (d + 16) kd275 K) K [some (fx 168), some (gr c), some (ti a), some (ti b), some (ti e), some (ti last), some (ti (hTT T)), some (ti (dTT T)), some (ti (tuL (ltT T))), some (ti md), some (ti pl), y11, some (ti st), none] [] (sh, M1, nx, zl) := by
    intro c0
    rw [if_neg c0] at k
    refine ⟨by omega, fun u => ?_, fun u => ?_⟩
    · -- made
      rw [if_neg (by omega)] at k
      have lh := hdL_len lt15 so (hTT T) (dTT T)
      have lk := tksL_len 288 32 (fun s _ _ => laT_b (T := T) s) (fun s _ _ => lbT_b (T := T) s) T hok
      refine writeNumber_Y (n := 2) b1 (by omega) (by omega) (by omega) (fun M2 F2 b2 => ?_)
      refine writeNumber_Y (n := 5) b2 (by omega) (by omega) (by rw [List.length_append, nbL_len]; omega) (fun M3 F3 b3 => ?_)
      refine writeNumber_Y (n := 5) b3 (by omega) (by omega) (by rw [List.length_append, List.length_append, nbL_len, nbL_len]; omega) (fun M4 F4 b4 => ?_)
      refine writeNumber_Y (n := 4) b4 (by omega) (by omega) (by rw [List.length_append, List.length_append, List.length_append, nbL_len, nbL_len, nbL_len]; omega) (fun M5 F5 b5 => ?_)
      obtain ⟨D, gD⟩ : ∃ D : List Int, D = C ++ nbL 2 2 ++ nbL (hTT T - 257) 5 ++ nbL (dTT T - 1) 5 ++ nbL (tuL (ltT T) - 4) 4 := ⟨_, rfl⟩
      rw [← gD] at b5
      have lD : D.length = C.length + 16 := by
        rw [gD, List.length_append, List.length_append, List.length_append, List.length_append, nbL_len, nbL_len, nbL_len, nbL_len]
      have W5 : wtF M M5 := wtF_w (wtF_w (wtF_w (wtF_w W1 F2) F3) F4) F5
      have eH : C ++ hdL (ltT T) (seT T) (hTT T) (dTT T) = D ++ (slL (ltT T) (tuL (ltT T)).toNat ++ tesL (ltT T) (seT T)) := by
        unfold hdL
        rw [gD]
        simp only [List.append_assoc]
      have L502 : ∀ (G i : Nat) (ii : Int) (pre : List Int) (M6 : FM), (((seT T).length : Int) - ii).toNat < G → ii = i → i ≤ (seT T).length → wtF M M6 → cdR M6 194 320 (ltT T) 19 → wbV M6 pre → pre ++ tesL (ltT T) ((seT T).drop i) = C ++ hdL (ltT T) (seT T) (hTT T) (dTT T) → fm_X (d + 16) kd275 502 [some (fx 168), some (gr c), some (ti a), some (ti b), some (ti e), some (ti last), some (ti (hTT T)), some (ti (dTT T)), some (ti (tuL (ltT T))), some (ti md), some (ti pl), y11, some (ti st), some (ti ii)] [] (sh, M6, nx, zl) K := by
        intro G
        induction G with
        | zero => intro i ii pre M6 z; omega
        | succ G ih =>
          intro i ii pre M6 q1 q2 q3 F6 c6 b6 ee
          have lenE := congrArg List.length ee
          rw [List.length_append, List.length_append] at lenE
          have V6 := ppV_w hc hV F6
          have e42 := V6.2.2.2.1
          refine s275_502 (d + 16) K _ _ _ ?_
          refine ⟨by omega, fun v => ?_, fun v => ?_⟩
          · rw [List.drop_eq_nil_of_le (by omega)] at ee
            have e9 : pre ++ tesL (ltT T) [] = pre := List.append_nil _
            rw [e9] at ee
            rw [ee] at b6
            refine writeTokens_Y (la := laT T) (lb := lbT T) (T := T) rfl (by omega) (fun s hs => ⟨V6.2.1.1 s hs, laT_b s⟩) (fun s hs => ⟨V6.2.1.2.1 s hs, lbT_b s⟩) V6.1.2.1 hTl V6.1.2.2 hok b6 (by rw [List.length_append]; omega) (fun M7 F7 b7 => ?_)
            exact k M7 (wtF_t F6 F7) b7
          · obtain ⟨p, hp⟩ : ∃ p : Int × Int, (seT T)[i]? = some p := ⟨_, List.getElem?_eq_getElem (by omega)⟩
            obtain ⟨x1, x2⟩ := V6.2.2.2.2 i p hp
            rw [← q2] at x1 x2
            have ok := so p (List.mem_of_getElem? hp)
            have eb := tbE_r p.1
            have ed : (seT T).drop i = p :: (seT T).drop (i + 1) := by
              rw [List.drop_eq_getElem_cons (by omega)]
              congr 1
              rw [List.getElem?_eq_getElem (by omega)] at hp
              injection hp
            have e9 : tesL (ltT T) (p :: (seT T).drop (i + 1)) = cbL (ltT T) 19 p.1 ++ (nbL p.2 (tbE p.1).toNat ++ tesL (ltT T) ((seT T).drop (i + 1))) := rfl
            rw [ed, e9] at ee lenE
            rw [List.length_append, List.length_append, nbL_len] at lenE
            obtain ⟨o1, o2⟩ := ok
            obtain ⟨c1, c2⟩ := cdR_at c6 (s := p.1) o1.1 (by omega)
            have cl := cbL_len (ltT T) 19 (s := p.1) (by omega)
            have p7 : (2 : Int) ^ (tbE p.1).toNat ≤ 128 := p2_mono (tbE p.1).toNat 7 (by omega)
            refine ⟨by omega, ?_⟩
            rw [x1]
            refine wCode_Y (fr := 320) (s := p.1) (ls := ltT T) (n := 19) rfl (by omega) (by omega) (by omega) (by omega) c1 c2 b6 (by omega) (fun M7 F7 b7 => ?_)
            have F17 := wtF_w F6 F7
            have V7 := ppV_w hc hV F17
            obtain ⟨z1, z2⟩ := V7.2.2.2.2 i p hp
            rw [← q2] at z1 z2
            refine ⟨by omega, ?_⟩
            rw [z2]
            refine ⟨by omega, ?_⟩
            rw [z1]
            refine stepBits_Y (by omega) ?_
            refine writeNumber_YI (n := (tbE p.1).toNat) (by omega) b7 (by omega) (by omega) (by rw [List.length_append]; omega) (fun M8 F8 b8 => ?_)
            refine ih (i + 1) (ii + 1) _ M8 (by omega) (by omega) (by omega) (wtF_w F17 F8) (fun s hs => ?_) b8 ?_
            · rw [F8.1 194 (by omega) (by omega), F8.1 203 (by omega) (by omega), F7.1 194 (by omega) (by omega), F7.1 203 (by omega) (by omega)]
              exact c6 s hs
            · rw [← ee]
              simp only [List.append_assoc]
      have L454 : ∀ (G i : Nat) (ii : Int) (M6 : FM), ((tuL (ltT T)) - ii).toNat < G → ii = i → i ≤ (tuL (ltT T)).toNat → wtF M M6 → wbV M6 (D ++ slL (ltT T) i) → fm_X (d + 16) kd275 454 [some (fx 168), some (gr c), some (ti a), some (ti b), some (ti e), some (ti last), some (ti (hTT T)), some (ti (dTT T)), some (ti (tuL (ltT T))), some (ti md), some (ti pl), y11, some (ti st), some (ti ii)] [] (sh, M6, nx, zl) K := by
        intro G
        induction G with
        | zero => intro i ii M6 z; omega
        | succ G ih =>
          intro i ii M6 q1 q2 q3 F6 b6
          have V6 := ppV_w hc hV F6
          refine s275_454 (d + 16) K _ _ _ ?_
          refine ⟨by omega, fun v => ?_, fun v => ?_⟩
          · rw [show i = (tuL (ltT T)).toNat by omega] at b6
            refine makeCodes_Y (n := 19) (fr := 320) (ls := ltT T) (c := 194) (nc := 339) rfl (by omega) (by omega) (by omega) (fun t ht => ⟨V6.2.1.2.2 t ht, lt15 t (by omega) (by omega)⟩) (fun M7 F7 G7 h7 => ?_)
            refine L502 ((seT T).length + 1) 0 0 _ M7 (by omega) rfl (by omega) (wtF_t F6 ⟨fun x _ _ x3 => F7 x x3, fun i _ => by rw [F7 168 (by omega)]⟩) (fun s hs => ⟨⟨by rw [F7 194 (by omega)]; exact V6.2.1.2.2 s hs, lt15 s (by omega) (by omega)⟩, h7 s hs⟩) (by unfold wbV at b6 ⊢; rw [F7 168 (by omega), F7 188 (by omega)]; exact b6) ?_
            rw [List.drop_zero, eH, List.append_assoc]
          · have tr := tel_r (i := ii) (by omega)
            have lv := V6.2.1.2.2 (tel ii).toNat (by omega)
            rw [show ((tel ii).toNat : Int) = tel ii by omega] at lv
            have l7 := ltT_b (T := T) (tel ii)
            refine smallOrder_Y (by omega) (by omega) ?_
            refine ⟨by omega, ?_⟩
            rw [lv]
            refine writeNumber_Y (n := 3) b6 (by omega) (by omega) (by rw [List.length_append, slL_len]; omega) (fun M7 F7 b7 => ?_)
            refine ih (i + 1) (ii + 1) M7 (by omega) (by omega) (by omega) (wtF_w F6 F7) ?_
            rw [List.append_assoc, q2] at b7
            exact b7
      exact L454 20 0 0 M5 (by omega) rfl (by omega) W5 (by show wbV M5 (D ++ []); rw [List.append_nil]; exact b5)
    · -- plain
      rw [if_pos (by omega)] at k
      have lk := tksL_len 288 32 (fun s _ _ => fxA_b s) (fun s _ _ => fxB_b s) T hok
      refine writeNumber_Y (n := 2) b1 (by omega) (by omega) (by omega) (fun M2 F2 b2 => ?_)
      have W2 := wtF_w W1 F2
      have V2 := ppV_w hc hV W2
      refine writeTokens_Y (c := 195) (la := fxA) (lb := fxB) (T := T) rfl (by omega) (fun s hs => ⟨?_, fxA_b s⟩) (fun s hs => ⟨?_, fxB_b s⟩) V2.1.2.1 hTl V2.1.2.2 hok b2 (by rw [List.length_append, nbL_len]; omega) (fun M3 F3 b3 => ?_)
      · rw [V2.2.2.1 s (by omega) (by omega)]
        unfold fxR fxA
        repeat' split
        all_goals first | rfl | omega
      · rw [V2.2.2.1 (288 + s) (by omega) (by omega)]
        unfold fxR fxB
        rw [if_neg (by omega), if_neg (by omega), if_neg (by omega), if_neg (by omega)]
      · exact k M3 (wtF_t W2 F3) b3
  refine ⟨by omega, fun u => B392 (by omega), fun u => ?_⟩
  refine ⟨by omega, fun u2 => B392 (by omega), fun u2 => ?_⟩
  -- stored
  rw [if_pos (by omega)] at k
  refine writeNumber_Y (n := 2) b1 (by omega) (by omega) (by omega) (fun M2 F2 b2 => ?_)
  have l2 : (C ++ nbL 0 2).length = B.length + 3 := by rw [List.length_append, nbL_len, l1]
  refine endByte_Y b2 (by rw [l2]; omega) (fun M3 F3 b3 => ?_)
  have l3 : (padB (C ++ nbL 0 2)).length = B.length + 3 + (8 - (B.length + 3) % 8) % 8 := by
    unfold padB
    rw [List.length_append, List.length_replicate, l2]
  refine writeNumber_Y (n := 16) b3 (by omega) (by omega) (by rw [l3]; omega) (fun M4 F4 b4 => ?_)
  refine writeNumber_Y (n := 16) b4 (by omega) (by omega) (by rw [List.length_append, nbL_len, l3]; omega) (fun M5 F5 b5 => ?_)
  rw [show 65535 - e + b = 65535 - (e - b) by omega] at b5
  obtain ⟨D, gD⟩ : ∃ D : List Int, D = padB (C ++ nbL 0 2) ++ nbL (e - b) 16 ++ nbL (65535 - (e - b)) 16 := ⟨_, rfl⟩
  rw [← gD] at b5 k
  have lD : D.length = B.length + 3 + (8 - (B.length + 3) % 8) % 8 + 32 := by
    rw [gD, List.length_append, List.length_append, nbL_len, nbL_len, l3]
  have W5 : wtF M M5 := wtF_w (wtF_w (wtF_w (wtF_w W1 F2) F3) F4) F5
  have L360 : ∀ (G i : Nat) (ii : Int) (M6 : FM), (e - ii).toNat < G → ii = b + i → ii ≤ e → wtF M M6 → wbV M6 (D ++ sbL f (a + b) i) → fm_X (d + 16) kd275 360 [some (fx 168), some (gr c), some (ti a), some (ti b), some (ti e), some (ti last), some (ti (hTT T)), some (ti (dTT T)), some (ti (tuL (ltT T))), some (ti md), some (ti pl), y11, some (ti st), some (ti ii)] [] (sh, M6, nx, zl) K := by
    intro G
    induction G with
    | zero => intro i ii M6 z; omega
    | succ G ih =>
      intro i ii M6 q1 q2 q3 F6 b6
      have V6 := ppV_w hc hV F6
      refine s275_360 (d + 16) K _ _ _ ?_
      refine ⟨by omega, fun v => ?_, fun v => ?_⟩
      · rw [show i = (e - b).toNat by omega] at b6
        exact k M6 F6 b6
      · refine ⟨nc, hs, ⟨by omega, by omega, by omega⟩, ?_⟩
        rw [V6.1.1]
        refine writeNumber_Y (n := 8) b6 (by omega) (by omega) (by rw [List.length_append, sbL_len]; omega) (fun M7 F7 b7 => ?_)
        refine ih (i + 1) (ii + 1) M7 (by omega) (by omega) (by omega) (wtF_w F6 F7) ?_
        rw [List.append_assoc, show a + ii = a + b + i by omega] at b7
        exact b7
  exact L360 (e - b + 1).toNat 0 b M5 (by omega) (by omega) (by omega) W5 (by show wbV M5 (D ++ []); rw [List.append_nil]; exact b5)
end MPART
