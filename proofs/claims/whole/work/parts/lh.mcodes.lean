/-! PACKING: codes, the reference; bits put, the class -/
section MCODES
variable {d nx zl : Nat} {K : Option TV → FH → Prop} {sh : Nat → Option Shp} {M : FM}
theorem codeOf_Y {c nc n s : Nat} {fr : Int} {ls : Int → Int} (hs : shp sh c = some (.inl (.int, nc))) (hn : n ≤ 288) (hfr : 0 ≤ fr ∧ fr + n ≤ nc ∧ nc ≤ 339) (hl : ∀ t : Nat, t < n → M c (fr + t) = ls t ∧ 0 ≤ ls t ∧ ls t ≤ 15) (hsn : s < n) (hpos : 0 < ls s)
    (k : K (some (ti (cdC ls n s))) (sh, M, nx, zl)) : fm_Y (d + 1) 297 [.ref c, .int (Int32.ofInt fr), .int (Int32.ofInt n), .int (Int32.ofInt s)] (sh, M, nx, zl) K := by
  refine m297 [gr c, ti fr, ti n, ti s] ?_
  obtain ⟨b1, b2, b3⟩ := hl s hsn
  obtain ⟨L, gL⟩ : ∃ L : Nat, ls s = L := ⟨(ls s).toNat, by omega⟩
  rw [gL] at b1 b2 b3 hpos
  have ec : cdC ls n s = fstL ls n L + cnt ls s L := by
    unfold cdC
    rw [gL, show (L : Int).toNat = L by omega]
  have L6 : ∀ (G l : Nat) (li co : Int) (y6 y7 : Option TV), ((L : Int) + 1 - li).toNat < G → li = l → 1 ≤ l → l ≤ L + 1 → (l ≤ L → 2 * co = fstL ls n l) → (l = L + 1 → co = cdC ls n s) → fm_X d kd297 6 [some (gr c), some (ti fr), some (ti n), some (ti s), some (ti co), some (ti li), y6, y7] [] (sh, M, nx, zl) K := by
    intro G
    induction G with
    | zero => intro l li co y6 y7 z; omega
    | succ G ih =>
      intro l li co y6 y7 q1 q2 q3 q4 h1 h2
      refine s297_6 d K _ _ _ ?_
      refine ⟨nc, hs, ⟨by omega, by omega, by omega⟩, ?_⟩
      rw [b1]
      refine ⟨by omega, fun u => ?_, fun u => ?_⟩
      · rw [h2 (by omega)]
        exact k
      · have e2 := h1 (by omega)
        have L25 : ∀ (N j : Nat) (ji cj : Int) (y7 : Option TV), ((n : Int) - ji).toNat < N → ji = j → j ≤ n → (l < L → cj = fstL ls n l + cnt ls j l) → (l = L → j ≤ s → cj = fstL ls n l + cnt ls j l) → (l = L → s ≤ j → cj = fstL ls n l + cnt ls s l) → fm_X d kd297 25 [some (gr c), some (ti fr), some (ti n), some (ti s), some (ti cj), some (ti li), some (ti ji), y7] [] (sh, M, nx, zl) K := by
          intro N
          induction N with
          | zero => intro j ji cj y7 z; omega
          | succ N ih2 =>
            intro j ji cj y7 p1 p2 p3 c1 c2 c3
            refine s297_25 d K _ _ _ ?_
            refine ⟨by omega, fun v => ?_, fun v => ?_⟩
            · refine ih (l + 1) (li + 1) cj _ _ (by omega) (by omega) (by omega) (by omega) (fun w => ?_) (fun w => ?_)
              · have e3 : fstL ls n (l + 1) = 2 * (fstL ls n l + (if l = 0 then 0 else cnt ls n l)) := rfl
                rw [e3, if_neg (by omega), c1 (by omega), show j = n by omega]
              · have el : l = L := by omega
                rw [c3 el (by omega), ec, el]
            · obtain ⟨t1, t2, t3⟩ := hl j (by omega)
              have ej : M c (fr + ji) = ls j := by rw [p2]; exact t1
              have cs : cnt ls (j + 1) l = cnt ls j l + (if ls j = l then 1 else 0) := rfl
              have NX : ∀ (z cj2 : Int), (l < L → cj2 = fstL ls n l + cnt ls (j + 1) l) → (l = L → j + 1 ≤ s → cj2 = fstL ls n l + cnt ls (j + 1) l) → (l = L → s ≤ j + 1 → cj2 = fstL ls n l + cnt ls s l) → b297_79 d (fW d kd297 K) K [some (gr c), some (ti fr), some (ti n), some (ti s), some (ti cj), some (ti li), some (ti ji), some (ti z)] [ti cj2] (sh, M, nx, zl) := by
                intro z cj2 w1 w2 w3
                exact ih2 (j + 1) (ji + 1) cj2 _ (by omega) (by omega) (by omega) w1 w2 w3
              -- earlier
              have E1 : (l < L ∨ j < s) → b297_47 d (fW d kd297 K) K [some (gr c), some (ti fr), some (ti n), some (ti s), some (ti cj), some (ti li), some (ti ji), y7] [] (sh, M, nx, zl) := by
                intro w
                refine ⟨nc, hs, ⟨by omega, by omega, by omega⟩, ?_⟩
                rw [ej]
                have w3 : l = L → s ≤ j + 1 → s = j + 1 := by omega
                clear w
                refine ⟨by omega, fun x => ?_, fun x => ?_⟩
                · rw [if_neg (by omega)] at cs
                  refine NX 1 cj (fun x => by rw [c1 x, cs]; omega) (fun x1 x2 => by rw [c2 x1 (by omega), cs]; omega) (fun x1 x2 => ?_)
                  rw [w3 x1 x2, cs, c2 x1 (by have := w3 x1 x2; omega)]
                  omega
                · refine ⟨by omega, fun z => by omega, fun _ => ?_⟩
                  rw [if_pos (by omega)] at cs
                  refine NX 1 (cj + 1) (fun x => by rw [c1 x, cs]; omega) (fun x1 x2 => by rw [c2 x1 (by omega), cs]; omega) (fun x1 x2 => ?_)
                  rw [w3 x1 x2, cs, c2 x1 (by have := w3 x1 x2; omega)]
                  omega
              refine ⟨nc, hs, ⟨by omega, by omega, by omega⟩, ?_⟩
              rw [b1]
              refine ⟨by omega, fun w => E1 (by omega), fun w => ?_⟩
              refine ⟨by omega, fun x => ?_, fun x => E1 (by omega)⟩
              have N0 := NX 0 cj (fun z => by omega) (fun z1 z2 => by omega) (fun z1 z2 => c3 z1 (by omega))
              refine ⟨nc, hs, ⟨by omega, by omega, by omega⟩, ?_⟩
              rw [ej]
              refine ⟨by omega, fun _ => N0, fun _ => ?_⟩
              exact ⟨by omega, fun _ => N0, fun z => by omega⟩
        have T := L25 (n + 1) 0 0 (2 * co) y7 (by omega) rfl (by omega) (fun _ => by rw [e2]; show _ = _ + (0 : Int); omega) (fun _ _ => by rw [e2]; show _ = _ + (0 : Int); omega) (fun w z => by rw [e2, show s = 0 by omega]; show _ = _ + (0 : Int); omega)
        exact T
  refine L6 (L + 2) 1 1 0 none none (by omega) rfl (by omega) (by omega) (fun _ => rfl) (fun z => by omega)
theorem makeCodes_Y {c nc n : Nat} {fr : Int} {ls : Int → Int} (hs : shp sh c = some (.inl (.int, nc))) (hn : n ≤ 288) (hc : c ≠ 203) (hfr : 0 ≤ fr ∧ fr + n ≤ nc ∧ nc ≤ 339) (hl : ∀ t : Nat, t < n → M c (fr + t) = ls t ∧ 0 ≤ ls t ∧ ls t ≤ 15)
    (k : ∀ M2 : FM, (∀ x : Nat, x ≠ 203 → M2 x = M x) → (∀ x : Int, (x < fr ∨ fr + n ≤ x) → M2 203 x = M 203 x) → (∀ t : Nat, t < n → M2 203 (fr + t) = if 0 < ls t then cdC ls n t else 0) → K none (sh, M2, nx, zl)) : fm_Y (d + 2) 296 [.ref 168, .ref c, .int (Int32.ofInt fr), .int (Int32.ofInt n)] (sh, M, nx, zl) K := by
  refine m296 [fx 168, gr c, ti fr, ti n] ?_
  have L : ∀ (G s : Nat) (si : Int) (M1 : FM), ((n : Int) - si).toNat < G → si = s → s ≤ n → (∀ x : Nat, x ≠ 203 → M1 x = M x) → (∀ x : Int, (x < fr ∨ fr + n ≤ x) → M1 203 x = M 203 x) → (∀ t : Nat, t < s → M1 203 (fr + t) = if 0 < ls t then cdC ls n t else 0) → fm_X (d + 1) kd296 3 [some (fx 168), some (gr c), some (ti fr), some (ti n), some (ti si)] [] (sh, M1, nx, zl) K := by
    intro G
    induction G with
    | zero => intro s si M1 z; omega
    | succ G ih =>
      intro s si M1 q1 q2 q3 F1 G1 h1
      refine s296_3 (d + 1) K _ _ _ ?_
      refine ⟨by omega, fun u => k M1 F1 G1 (fun t ht => h1 t (by omega)), fun u => ?_⟩
      obtain ⟨t1, t2, t3⟩ := hl s (by omega)
      have e1 : M1 c (fr + si) = ls s := by rw [F1 c hc, q2]; exact t1
      have PUT : ∀ v : Int, v = (if 0 < ls s then cdC ls n s else 0) → b296_38 (d + 1) (fW (d + 1) kd296 K) K [some (fx 168), some (gr c), some (ti fr), some (ti n), some (ti si)] [ti v, ti (fr + si), fx 203] (sh, M1, nx, zl) := by
        intro v hv
        refine ⟨by omega, ?_⟩
        obtain ⟨P, gP⟩ : ∃ P : FM, P = pq M1 203 (fr + si) v := ⟨_, rfl⟩
        have T : (o_inc 4 1 (fW (d + 1) kd296 K 3) : FC) [some (fx 168), some (gr c), some (ti fr), some (ti n), some (ti si)] [] (sh, P, nx, zl) := by
          refine ih (s + 1) (si + 1) P (by omega) (by omega) (by omega) (fun x hx => by rw [gP, pq_o _ _ _ hx]; exact F1 x hx) (fun x hx => by rw [gP, pq_ne _ _ _ _ (by omega)]; exact G1 x hx) (fun t ht => ?_)
          rw [gP]
          by_cases e : t = s
          · rw [e, q2, pq_at]
            exact hv
          · rw [pq_ne _ _ _ _ (by omega)]
            exact h1 t (by omega)
        rw [gP] at T
        exact T
      refine ⟨nc, hs, ⟨by omega, by omega, by omega⟩, ?_⟩
      rw [e1]
      refine ⟨by omega, fun v => PUT 0 (by rw [if_neg (by omega)]), fun v => ?_⟩
      rw [q2] at PUT ⊢
      refine codeOf_Y (ls := ls) hs hn hfr (fun t ht => by rw [F1 c hc]; exact hl t ht) (by omega) (by omega) ?_
      exact PUT _ (by rw [if_pos (by omega)])
  exact L (n + 1) 0 0 M (by omega) rfl (by omega) (fun _ _ => rfl) (fun _ _ => rfl) (fun t ht => by omega)
/-- the class's bits -/
def pbV (M : FM) (B : List Int) : Prop := ((M 23 1 = (B.length / 8 : Nat) ∧ M 23 2 = 0) ∧ (M 22 18 = blV (tlB B) ∧ M 22 19 = (B.length % 8 : Nat)) ∧ bsP B) ∧ ∀ i : Nat, 8 * i + 8 ≤ B.length → M 24 i % 256 = byB B i
def pbF (M M2 : FM) : Prop := (∀ x : Nat, x ≠ 22 → x ≠ 23 → x ≠ 24 → M2 x = M x) ∧ ∀ i : Int, i ≠ 18 → i ≠ 19 → M2 22 i = M 22 i
theorem pbF_t {M M2 M3 : FM} (h1 : pbF M M2) (h2 : pbF M2 M3) : pbF M M3 := ⟨fun x x1 x2 x3 => by rw [h2.1 x x1 x2 x3, h1.1 x x1 x2 x3], fun i i1 i2 => by rw [h2.2 i i1 i2, h1.2 i i1 i2]⟩
theorem row23 : rowS sh 23 24 65792 := ⟨⟨rfl, rfl⟩, by omega, by omega, by omega, by omega⟩
theorem putBits_Y {B : List Int} {v : Int} {n : Nat} (hB : pbV M B) (hv : 0 ≤ v ∧ v < 2 ^ n) (hn : n ≤ 16) (hl : B.length + n ≤ 526336) (k : ∀ M2 : FM, pbF M M2 → pbV M2 (B ++ nbL v n) → K none (sh, M2, nx, zl)) : fm_Y (d + 2) 90 [.ref 22, .int (Int32.ofInt v), .int (Int32.ofInt n)] (sh, M, nx, zl) K := by
  obtain ⟨⟨⟨h1, h2⟩, ⟨h3, h4⟩, hs⟩, h5⟩ := hB
  have hs2 : bsP (B ++ nbL v n) := bsP_app hs (nbL_bs v n)
  have l2 : (B ++ nbL v n).length = B.length + n := by rw [List.length_append, nbL_len]
  refine m90 [fx 22, ti v, ti n] ?_
  obtain ⟨C, gC⟩ : ∃ C : List Int, C = B ++ nbL v n := ⟨_, rfl⟩
  rw [← gC] at k hs2 l2
  have n2 : (2 : Int) ^ n ≤ 65536 := by
    have : n = 0 ∨ n = 1 ∨ n = 2 ∨ n = 3 ∨ n = 4 ∨ n = 5 ∨ n = 6 ∨ n = 7 ∨ n = 8 ∨ n = 9 ∨ n = 10 ∨ n = 11 ∨ n = 12 ∨ n = 13 ∨ n = 14 ∨ n = 15 ∨ n = 16 := by omega
    rcases this with e | e | e | e | e | e | e | e | e | e | e | e | e | e | e | e | e <;> (rw [e]; decide)
  have tl : (tlB B).length = B.length % 8 := by
    unfold tlB
    rw [List.length_drop]
    omega
  have tr := blV_r (bsP_drop hs (8 * (B.length / 8)))
  rw [show B.drop (8 * (B.length / 8)) = tlB B from rfl, tl] at tr
  -- what is held
  have ehold : blV (C.drop (8 * (B.length / 8))) = blV (tlB B) + v * 2 ^ (B.length % 8) := by
    rw [gC, List.drop_append_of_le_length (by omega), blV_app, blV_nb, show B.drop (8 * (B.length / 8)) = tlB B from rfl, tl, Int.emod_eq_of_lt hv.1 hv.2, Int.mul_comm]
  have L : ∀ (G i : Nat) (M1 : FM), C.length - 8 * i < G → B.length / 8 ≤ i → 8 * i ≤ C.length → pbF M M1 → M1 23 1 = i → M1 23 2 = 0 → M1 22 18 = blV (C.drop (8 * i)) → M1 22 19 = (C.length : Int) - 8 * i → (∀ j : Nat, j < i → M1 24 j % 256 = byB C j) → fm_X (d + 1) kd90 25 [some (fx 22), some (ti v), some (ti n)] [] (sh, M1, nx, zl) K := by
    intro G
    induction G with
    | zero => intro i M1 z; omega
    | succ G ih =>
      intro i M1 q1 q2 q3 F1 e1 e2 e3 e4 e5
      refine s90_25 (d + 1) K _ _ _ ?_
      refine ⟨by omega, fun u => ?_, fun u => ?_⟩
      · have ei : i = C.length / 8 := by omega
        refine k M1 F1 ⟨⟨⟨by rw [e1, ei], e2⟩, ⟨?_, by omega⟩, hs2⟩, fun j hj => e5 j (by omega)⟩
        rw [e3, ei]
        rfl
      · have sp : C.drop (8 * i) = (C.drop (8 * i)).take 8 ++ C.drop (8 * (i + 1)) := by
          rw [show 8 * (i + 1) = 8 * i + 8 by omega, ← List.drop_drop, List.take_append_drop]
        have l8 : ((C.drop (8 * i)).take 8).length = 8 := by
          rw [List.length_take, List.length_drop]
          omega
        have hv8 : blV (C.drop (8 * i)) = byB C i + 256 * blV (C.drop (8 * (i + 1))) := by
          rw [sp, blV_app, l8]
          unfold byB
          rfl
        have b8 := byB_r hs2 i
        have lo : (C.drop (8 * i)).length ≤ 23 := by
          rw [List.length_drop]
          omega
        have hr := blV_r (bsP_drop hs2 (8 * i))
        have hr2 : (2 : Int) ^ (C.drop (8 * i)).length ≤ 8388608 := by
          generalize (C.drop (8 * i)).length = y at lo
          have : y = 0 ∨ y = 1 ∨ y = 2 ∨ y = 3 ∨ y = 4 ∨ y = 5 ∨ y = 6 ∨ y = 7 ∨ y = 8 ∨ y = 9 ∨ y = 10 ∨ y = 11 ∨ y = 12 ∨ y = 13 ∨ y = 14 ∨ y = 15 ∨ y = 16 ∨ y = 17 ∨ y = 18 ∨ y = 19 ∨ y = 20 ∨ y = 21 ∨ y = 22 ∨ y = 23 := by omega
          rcases this with e | e | e | e | e | e | e | e | e | e | e | e | e | e | e | e | e | e | e | e | e | e | e | e <;> (rw [e]; decide)
        obtain ⟨hd, ghd⟩ : ∃ hd : Int, hd = M1 22 18 := ⟨_, rfl⟩
        have PR := fun (K : Option TV → FH → Prop) kk => put_R (d := d) (nx := nx) (sl := zl) (K := K) (M := M1) (f := M1 24) (s := M1 23 1) (o := M1 23 2) (x := M1 22 18) (row23 (sh := sh)) (by omega) (by omega) kk
        rw [rowW_self] at PR
        refine PR _ ?_
        obtain ⟨R, gR⟩ : ∃ R : FM, R = rowW M1 23 24 (ur (M1 24) (M1 23 1) (by1 (M1 22 18) 1)) (M1 23 1 + 1) (M1 23 2) := ⟨_, rfl⟩
        have o22 : R 22 = M1 22 := by rw [gR, rowW_o (by omega) (by omega)]
        obtain ⟨P1, g1⟩ : ∃ P1 : FM, P1 = pq R 22 18 (R 22 18 % 4294967296 / 256) := ⟨_, rfl⟩
        obtain ⟨P2, g2⟩ : ∃ P2 : FM, P2 = pq P1 22 19 (P1 22 19 - 8) := ⟨_, rfl⟩
        have T : fm_X (d + 1) kd90 25 [some (fx 22), some (ti v), some (ti n)] [] (sh, P2, nx, zl) K := by
          have o1 : ∀ x : Nat, x ≠ 22 → P2 x = R x := fun x hx => by rw [g2, pq_o _ _ _ hx, g1, pq_o _ _ _ hx]
          refine ih (i + 1) P2 (by omega) (by omega) (by omega) (pbF_t F1 ⟨fun x x1 x2 x3 => by rw [o1 x x1, gR, rowW_o x2 x3], fun j j1 j2 => by rw [g2, pq_ne _ _ _ _ j2, g1, pq_ne _ _ _ _ j1, o22]⟩) ?_ ?_ ?_ ?_ (fun j hj => ?_)
          · rw [o1 23 (by omega), gR, rowW_1, e1]
            rfl
          · rw [o1 23 (by omega), gR, rowW_2]
            exact e2
          · rw [g2, pq_ne _ _ _ _ (by omega), g1, pq_at, o22, e3]
            omega
          · rw [g2, pq_at, g1, pq_ne _ _ _ _ (by omega), o22, e4]
            omega
          · rw [o1 24 (by omega), gR, rowW_b (by omega)]
            by_cases e : j = i
            · rw [e, e1, ur_at, e3, hv8]
              unfold by1
              rw [Int.ediv_one]
              omega
            · rw [ur_ne (by omega)]
              exact e5 j (by omega)
        rw [g2, g1, gR] at T
        exact T
  -- the first step
  obtain ⟨P1, g1⟩ : ∃ P1 : FM, P1 = pq M 22 18 (blV (tlB B) + v * 2 ^ (B.length % 8)) := ⟨_, rfl⟩
  obtain ⟨P2, g2⟩ : ∃ P2 : FM, P2 = pq P1 22 19 (P1 22 19 + n) := ⟨_, rfl⟩
  refine ⟨by omega, ?_⟩
  rw [h3, h4, show ((B.length % 8 : Nat) : Int).toNat = B.length % 8 by omega]
  refine ⟨_, i32_or (k := B.length % 8) (by omega) rfl rfl tr.1 tr.2, ?_⟩
  have T : fm_X (d + 1) kd90 25 [some (fx 22), some (ti v), some (ti n)] [] (sh, P2, nx, zl) K := by
    have o1 : ∀ x : Nat, x ≠ 22 → P2 x = M x := fun x hx => by rw [g2, pq_o _ _ _ hx, g1, pq_o _ _ _ hx]
    refine L (C.length + 1) (B.length / 8) P2 (by omega) (by omega) (by omega) ⟨fun x x1 _ _ => o1 x x1, fun i i1 i2 => by rw [g2, pq_ne _ _ _ _ i2, g1, pq_ne _ _ _ _ i1]⟩ (by rw [o1 23 (by omega)]; exact h1) (by rw [o1 23 (by omega)]; exact h2) ?_ ?_ (fun j hj => ?_)
    · rw [g2, pq_ne _ _ _ _ (by omega), g1, pq_at]
      exact ehold.symm
    · rw [g2, pq_at, g1, pq_ne _ _ _ _ (by omega), h4]
      omega
    · rw [o1 24 (by omega), h5 j (by omega), gC, byB_app (by omega)]
  rw [g2, g1] at T
  exact T
end MCODES
