/-! PACKING: a whole row; the class -/
section PACK
variable {d nx zl : Nat} {K : Option TV → FH → Prop} {sh : Nat → Option Shp} {M : FM} {c nc : Nat} {a n : Int} {f : Int → Int}
theorem cq50 : cqS sh 50 53 54 55 51 52 288 := ⟨⟨56, rfl⟩, ⟨rfl, rfl, rfl, rfl, rfl⟩, by omega, by omega, by omega⟩
theorem cq57 : cqS sh 57 60 61 62 58 59 32 := ⟨⟨63, rfl⟩, ⟨rfl, rfl, rfl, rfl, rfl⟩, by omega, by omega, by omega⟩
theorem forgetPlaces_Y (k : ∀ (M2 : FM) (w : Int), w2P w → (∀ x : Nat, x ≠ 22 → x ≠ 25 → M2 x = M x) → (∀ i : Int, i ≠ 3 → i ≠ 4 → i ≠ 18 → i ≠ 19 → M2 22 i = M 22 i) → (M2 22 3 = 0 ∧ M2 22 4 = w - 1 ∧ M2 22 18 = 0 ∧ M2 22 19 = 0) → (∀ i : Int, 0 ≤ i → i < w → M2 25 i = 0) → K none (sh, M2, nx, zl)) (hn : 0 ≤ n ∧ n ≤ 65536) : fm_Y (d + 1) 71 [.ref 22, .int (Int32.ofInt n)] (sh, M, nx, zl) K := by
  refine m71 [fx 22, ti n] ?_
  obtain ⟨P1, g1⟩ : ∃ P1 : FM, P1 = pq M 22 18 0 := ⟨_, rfl⟩
  obtain ⟨P2, g2⟩ : ∃ P2 : FM, P2 = pq P1 22 19 0 := ⟨_, rfl⟩
  obtain ⟨P3, g3⟩ : ∃ P3 : FM, P3 = pq P2 22 3 0 := ⟨_, rfl⟩
  have o3 : ∀ x : Nat, x ≠ 22 → P3 x = M x := fun x hx => by rw [g3, pq_o _ _ _ hx, g2, pq_o _ _ _ hx, g1, pq_o _ _ _ hx]
  have e3 : P3 22 3 = 0 ∧ P3 22 18 = 0 ∧ P3 22 19 = 0 := by
    refine ⟨by rw [g3, pq_at], by rw [g3, pq_ne _ _ _ _ (by omega), g2, pq_ne _ _ _ _ (by omega), g1, pq_at], by rw [g3, pq_ne _ _ _ _ (by omega), g2, pq_at]⟩
  have k3 : ∀ i : Int, i ≠ 3 → i ≠ 18 → i ≠ 19 → P3 22 i = M 22 i := fun i i1 i2 i3 => by rw [g3, pq_ne _ _ _ _ i1, g2, pq_ne _ _ _ _ i3, g1, pq_ne _ _ _ _ i2]
  have B41 : ∀ (w j : Int), w2P w → b71_41 d (fW d kd71 K) K [some (fx 22), some (ti n), some (ti w), some (ti j)] [] (sh, P3, nx, zl) := by
    intro w j hw
    have wr := w2_r hw
    obtain ⟨P4, g4⟩ : ∃ P4 : FM, P4 = pq P3 22 4 (w - 1) := ⟨_, rfl⟩
    have L50 : ∀ (G : Nat) (i : Int) (M1 : FM), (w - i).toNat < G → 0 ≤ i → i ≤ w → (∀ x : Nat, x ≠ 25 → M1 x = P4 x) → (∀ q : Int, 0 ≤ q → q < i → M1 25 q = 0) → fm_X d kd71 50 [some (fx 22), some (ti n), some (ti w), some (ti i)] [] (sh, M1, nx, zl) K := by
      intro G
      induction G with
      | zero => intro i M1 z; omega
      | succ G ih =>
        intro i M1 q1 q2 q3 F1 z1
        refine s71_50 d K _ _ _ ?_
        refine ⟨by omega, fun u => ?_, fun u => ?_⟩
        · have e22 : M1 22 = P4 22 := F1 22 (by omega)
          refine k M1 w hw (fun x x1 x2 => by rw [F1 x x2, g4, pq_o _ _ _ x1, o3 x x1]) (fun i i1 i2 i3 i4 => by rw [e22, g4, pq_ne _ _ _ _ i2, k3 i i1 i3 i4]) ?_ (fun q q0 q1 => z1 q q0 (by omega))
          rw [e22, g4, pq_ne _ _ _ _ (by omega), pq_at, pq_ne _ _ _ _ (by omega), pq_ne _ _ _ _ (by omega)]
          exact ⟨e3.1, rfl, e3.2.1, e3.2.2⟩
        · refine ⟨by omega, ?_⟩
          obtain ⟨P, gP⟩ : ∃ P : FM, P = pq M1 25 i 0 := ⟨_, rfl⟩
          have R := ih (i + 1) P (by omega) (by omega) (by omega) (fun x hx => by rw [gP, pq_o _ _ _ hx]; exact F1 x hx) (fun q q0 q1 => by
            rw [gP]
            by_cases e : q = i
            · rw [e, pq_at]
            · rw [pq_ne _ _ _ _ e]
              exact z1 q q0 (by omega))
          rw [gP] at R
          exact R
    have R := L50 (w + 1).toNat 0 P4 (by omega) (by omega) (by omega) (fun _ _ => rfl) (fun q q0 q1 => by omega)
    rw [g4] at R
    exact R
  have L20 : ∀ (G j : Nat) (ji : Int), 9 - j < G → ji = j → j ≤ 9 → fm_X d kd71 20 [some (fx 22), some (ti n), some (ti (2 ^ (6 + j))), some (ti ji)] [] (sh, P3, nx, zl) K := by
    intro G
    induction G with
    | zero => intro j ji z; omega
    | succ G ih =>
      intro j ji q1 q2 q3
      have wP : w2P (2 ^ (6 + j)) := ⟨6 + j, by omega, rfl⟩
      have wr := w2_r wP
      refine s71_20 d K _ _ _ ?_
      refine ⟨by omega, fun u => B41 _ _ wP, fun u => ?_⟩
      refine ⟨by omega, fun v => B41 _ _ wP, fun v => ?_⟩
      have R := ih (j + 1) (ji + 1) (by omega) (by omega) (by omega)
      rw [show 6 + (j + 1) = 6 + j + 1 by omega, Int.pow_succ] at R
      exact R
  have R := L20 10 0 0 (by omega) rfl (by omega)
  rw [g3, g2, g1] at R
  exact R
theorem put1_Y {ra rb rn : Nat} {x : Int} (hr : rowS sh ra rb rn) (h0 : 0 ≤ M ra 1) (h1 : M ra 1 < rn) (k : ∀ M2 : FM, (∀ y : Nat, y ≠ ra → y ≠ rb → M2 y = M y) → M2 ra 1 = M ra 1 + 1 → M2 ra 2 = M ra 2 → M2 rb (M ra 1) = by1 x 1 → (∀ i : Int, i ≠ M ra 1 → M2 rb i = M rb i) → K none (sh, M2, nx, zl)) : fm_Y (d + 1) 19 [.ref ra, .int (Int32.ofInt x)] (sh, M, nx, zl) K := by
  have q := put_R (d := d) (nx := nx) (sl := zl) (K := K) (M := M) (f := M rb) (s := M ra 1) (o := M ra 2) (x := x) hr h0 h1 (k _ (fun y y1 y2 => rowW_o y1 y2) (rowW_1 _ _ _ _ _ _) (rowW_2 _ _ _ _ _ _) (by rw [rowW_b hr.2.2.2.1, ur_at]) (fun i hi => by rw [rowW_b hr.2.2.2.1, ur_ne hi]))
  rw [rowW_self] at q
  exact q
theorem pbV_F {M M2 : FM} {B : List Int} (h : pbV M B) (h1 : M2 22 18 = M 22 18) (h2 : M2 22 19 = M 22 19) (h3 : M2 23 = M 23) (h4 : M2 24 = M 24) : pbV M2 B := by
  unfold pbV at *
  rw [h1, h2, h3, h4]
  exact h
/-- what never changes in the packer -/
def pkC (M : FM) : Prop := (∀ i : Int, 0 ≤ i → i < 19 → M 1 i = tel i) ∧ cdT M 54 55 fxA 288 ∧ cdT M 61 62 fxB 32
/-- what packing leaves, the class -/
def pkF (M M2 : FM) : Prop := ∀ x : Nat, (x < 22 ∨ 67 < x ∨ (49 < x ∧ x < 64)) → M2 x = M x
theorem pkC_F {M M2 : FM} (h : pkC M) (w : pkF M M2) : pkC M2 := ⟨by rw [w 1 (by omega)]; exact h.1, cdT_F h.2.1 (w 54 (by omega)) (w 55 (by omega)), cdT_F h.2.2 (w 61 (by omega)) (w 62 (by omega))⟩
theorem pack_Y (hs : shp sh c = some (.inl (.byte, nc))) (hnc : nc ≤ 131072) (hc : c < 22 ∨ 67 < c) (hf : M c = f) (hn : 1 ≤ n ∧ n ≤ 65536) (ha : 0 ≤ a ∧ a + n ≤ nc) (hC : pkC M)
    (k : ∀ M2 : FM, pkF M M2 → pbV M2 (pkS f a n) → K (some (ti ((pkS f a n).length / 8 : Nat))) (sh, M2, nx, zl)) : fm_Y (d + 5) 70 [.ref 22, .ref c, .int (Int32.ofInt a), .int (Int32.ofInt n)] (sh, M, nx, zl) K := by
  have bl := pkB_len (f := f) (a := a) (n := n) (by omega)
  have rS : rowS sh 23 24 65792 := row23
  refine m70 [fx 22, gr c, ti a, ti n] ?_
  refine clearG_Y rS (fun M1 F1 z1 y1 => ?_)
  refine put1_Y rS (by omega) (by omega) (fun M2 F2 z2 y2 p2 q2 => ?_)
  refine put1_Y rS (by omega) (by omega) (fun M3 F3 z3 y3 p3 q3 => ?_)
  refine forgetPlaces_Y (fun M4 w hw F4 G4 e4 h4 => ?_) (by omega)
  have wr := w2_r hw
  have B0 : pbV M4 (nbL 120 8 ++ nbL 156 8) := by
    have l0 : (nbL 120 8 ++ nbL 156 8).length = 16 := rfl
    refine ⟨⟨⟨?_, ?_⟩, ⟨?_, ?_⟩, bsP_app (nbL_bs _ _) (nbL_bs _ _)⟩, fun i hi => ?_⟩
    · rw [F4 23 (by omega) (by omega), z3, z2, z1, l0]
      rfl
    · rw [F4 23 (by omega) (by omega), y3, y2, y1]
    · rw [e4.2.2.1]
      rfl
    · rw [e4.2.2.2]
      rfl
    · rw [l0] at hi
      rw [F4 24 (by omega) (by omega)]
      have ei : i = 0 ∨ i = 1 := by omega
      rcases ei with ei | ei
      · rw [ei, q3 _ (by omega), show ((0 : Nat) : Int) = M1 23 1 by omega, p2]
        decide
      · rw [ei, show ((1 : Nat) : Int) = M2 23 1 by omega, p3]
        decide
  have FA : pkF M M4 := fun x hx => by rw [F4 x (by omega) (by omega), F3 x (by omega) (by omega), F2 x (by omega) (by omega), F1 x (by omega)]
  have CH0 : chC M4 f a w 0 := by
    refine ⟨fun v v0 v1 => Or.inl ⟨by rw [h4 v v0 v1]; rfl, fun t t0 t1 => by omega⟩, fun t t0 t1 => by omega⟩
  have fM : ∀ M2 : FM, pkF M M2 → M2 c = f := fun M2 F => by rw [F c (by omega)]; exact hf
  -- the end
  have E34 : ∀ (M5 : FM) (pi : Int) (y5 y6 y7 y8 y9 : Option TV), pkF M M5 → pbV M5 (pkB f a n) → (o_al 0 (o_ic 0 (o_al 0 (o_get 5 19 19 (o_ineg (o_imask 8 (o_callv (d + 4) 90 2 5 (o_al 0 (o_get 5 0 0 (o_al 1 (o_il 2 (o_il 3 (o_calls (d + 4) 100 3 (o_callv (d + 4) 18 1 1 (o_al 0 (o_get 5 0 0 (o_get 1 1 1 (o_iret K))))))))))))))))) : FC) [some (fx 22), some (gr c), some (ti a), some (ti n), some (ti pi), y5, y6, y7, y8, y9] [] (sh, M5, nx, zl) := by
    intro M5 pi y5 y6 y7 y8 y9 F5 b5
    have e19 := b5.1.2.1.2
    obtain ⟨pd, gp⟩ : ∃ pd : Nat, pd = (8 - (pkB f a n).length % 8) % 8 := ⟨_, rfl⟩
    refine putBits_YI (n := pd) (by omega) b5 ⟨by omega, two_pos _⟩ (by omega) (by omega) (fun M6 F6 b6 => ?_)
    have ep : pkB f a n ++ nbL 0 pd = padB (pkB f a n) := by
      unfold padB
      rw [nbL_0 pd, gp]
    rw [ep] at b6
    have pl := padB_len (pkB f a n)
    have F16 : pkF M M6 := fun x hx => by rw [F6.1 x (by omega) (by omega) (by omega)]; exact F5 x hx
    refine check_Y hs hnc ha.1 (by omega) ha.2 ?_
    rw [fM M6 F16]
    obtain ⟨v, gv⟩ : ∃ v : Int, v = adV (sl f a n.toNat) := ⟨_, rfl⟩
    have vr : 0 ≤ v ∧ v < 4294967296 := by
      have := ad_rng (sl f a n.toNat)
      rw [gv]
      unfold adV
      omega
    have eS : pkS f a n = padB (pkB f a n) ++ ckL v := by rw [gv]; rfl
    rw [← gv]
    obtain ⟨⟨⟨h1, h2⟩, ⟨h3, h4'⟩, hs4⟩, h5⟩ := b6
    obtain ⟨A, gA⟩ : ∃ A : List Int, A = padB (pkB f a n) := ⟨_, rfl⟩
    rw [← gA] at h1 h3 h4' hs4 h5 pl eS
    have sr : -2147483648 ≤ s32 v ∧ s32 v ≤ 2147483647 := by
      unfold s32
      omega
    refine putH_M rS sr (by omega) (by omega) ?_
    obtain ⟨R, gR⟩ : ∃ R : FM, R = rowW M6 23 24 (tb4 (M6 24) (M6 23 1) (s32 v)) (M6 23 1 + 4) (M6 23 2) := ⟨_, rfl⟩
    have oR : ∀ x : Nat, x ≠ 23 → x ≠ 24 → R x = M6 x := fun x x1 x2 => by rw [gR, rowW_o x1 x2]
    have R1 : R 23 1 = M6 23 1 + 4 := by rw [gR, rowW_1]
    have R2 : R 23 2 = 0 := by rw [gR, rowW_2, h2]
    have R24 : R 24 = tb4 (M6 24) (M6 23 1) (s32 v) := by rw [gR, rowW_b (by omega)]
    have lS : (pkS f a n).length = A.length + 32 := by rw [eS, List.length_append, ckL_len]
    have FIN : K (some (ti (R 23 1))) (sh, R, nx, zl) := by
      rw [R1, h1, show ((A.length / 8 : Nat) : Int) + 4 = (((pkS f a n).length / 8 : Nat) : Int) by rw [lS]; omega]
      have z0 : ∀ C : List Int, C.length % 8 = 0 → blV (tlB C) = 0 := fun C hC => by
        unfold tlB
        rw [List.drop_eq_nil_of_le (by omega)]
        rfl
      have eck : ckL v = sbL (fun i => if i = 0 then v / 16777216 else if i = 1 then v / 65536 else if i = 2 then v / 256 else v) 0 4 := rfl
      refine k R (fun x hx => by rw [oR x (by omega) (by omega)]; exact F16 x hx) ⟨⟨⟨by rw [R1, h1, lS]; omega, R2⟩, ⟨?_, ?_⟩, ?_⟩, fun i hi => ?_⟩
      · rw [oR 22 (by omega) (by omega), h3, z0 A pl.1, z0 _ (by rw [lS]; omega)]
      · rw [oR 22 (by omega) (by omega), h4', lS]
        omega
      · rw [eS, eck]
        exact bsP_app hs4 (sbL_bs _ _ _)
      · rw [lS] at hi
        rw [R24, h1]
        unfold tb4
        by_cases c1 : 8 * i + 8 ≤ A.length
        · rw [ur_ne (by omega), ur_ne (by omega), ur_ne (by omega), ur_ne (by omega), eS, byB_app c1]
          exact h5 i c1
        · obtain ⟨j, gj⟩ : ∃ j : Nat, i = A.length / 8 + j := ⟨i - A.length / 8, by omega⟩
          rw [eS, eck, gj, blV_drop8 pl.1 (by omega)]
          have ej : j = 0 ∨ j = 1 ∨ j = 2 ∨ j = 3 := by omega
          have cast : ((A.length / 8 + j : Nat) : Int) = ((A.length / 8 : Nat) : Int) + j := by omega
          rw [cast]
          rcases ej with ej | ej | ej | ej
          · rw [ej, ur_ne (by omega), ur_ne (by omega), ur_ne (by omega), show ((A.length / 8 : Nat) : Int) + ((0 : Nat) : Int) = ((A.length / 8 : Nat) : Int) by omega, ur_at]
            show by1 (s32 v) 16777216 % 256 = v / 16777216 % 256
            unfold by1 s32
            omega
          · rw [ej, ur_ne (by omega), ur_ne (by omega), show ((A.length / 8 : Nat) : Int) + ((1 : Nat) : Int) = ((A.length / 8 : Nat) : Int) + 1 by omega, ur_at]
            show by1 (s32 v) 65536 % 256 = v / 65536 % 256
            unfold by1 s32
            omega
          · rw [ej, ur_ne (by omega), show ((A.length / 8 : Nat) : Int) + ((2 : Nat) : Int) = ((A.length / 8 : Nat) : Int) + 2 by omega, ur_at]
            show by1 (s32 v) 256 % 256 = v / 256 % 256
            unfold by1 s32
            omega
          · rw [ej, show ((A.length / 8 : Nat) : Int) + ((3 : Nat) : Int) = ((A.length / 8 : Nat) : Int) + 3 by omega, ur_at]
            show by1 (s32 v) 1 % 256 = v % 256
            unfold by1 s32
            omega
    rw [gR] at FIN
    exact FIN
  have L34 : ∀ (g : Nat) (pi : Int) (Bs : List Int) (M5 : FM) (y5 y6 y7 y8 y9 : Option TV), 0 ≤ pi → pi ≤ n → n - pi ≤ 4096 * g → pi < n → Bs.length + 42 * g + 8 * (n - pi) ≤ 525100 → pkF M M5 → M5 22 4 = w - 1 → (0 ≤ M5 22 3 ∧ M5 22 3 ≤ pi) → chC M5 f a w (M5 22 3) → pbV M5 Bs → pgG f a n g Bs pi = pkB f a n → fm_X (d + 4) kd70 34 [some (fx 22), some (gr c), some (ti a), some (ti n), some (ti pi), y5, y6, y7, y8, y9] [] (sh, M5, nx, zl) K := by
    intro g
    induction g with
    | zero => intro pi Bs M5 y5 y6 y7 y8 y9 h0 h1 h2 h3; omega
    | succ g ih =>
      intro pi Bs M5 y5 y6 y7 y8 y9 h0 h1 h2 h3 h4 F5 m5 n5 c5 b5 e
      have eG : pgG f a n (g + 1) Bs pi = if pi + 4096 < n then pgG f a n g (ptS Bs f a pi (pi + 4096) 0) (pi + 4096) else ptS Bs f a pi n 1 := rfl
      rw [eG] at e
      refine s70_34 (d + 4) K _ _ _ ?_
      refine ⟨by omega, fun z => by omega, fun _ => ?_⟩
      refine ⟨by omega, ?_⟩
      -- a part
      have PT : ∀ (sp last : Int), sp = min n (pi + 4096) → (last = 0 ∧ sp ≠ n ∨ last = 1 ∧ sp = n) → (∀ (M9 : FM) (y5 y6 y7 y8 y9 : Option TV), pkF M M9 → M9 22 4 = w - 1 → (0 ≤ M9 22 3 ∧ M9 22 3 ≤ sp) → chC M9 f a w (M9 22 3) → pbV M9 (ptS Bs f a pi sp last) → b70_237 (d + 4) (fW (d + 4) kd70 K) K [some (fx 22), some (gr c), some (ti a), some (ti n), some (ti pi), y5, y6, y7, y8, y9] [] (sh, M9, nx, zl)) → (o_is 5 (o_al 0 (o_al 1 (o_il 2 (o_il 4 (o_il 5 (o_callv (d + 4) 72 4 5 (o_al 0 (o_al 0 (o_get 5 8 8 (o_ic 15 (o_callv (d + 4) 81 2 5 (o_al 0 (o_al 0 (o_get 5 9 9 (o_ic 15 (o_callv (d + 4) 81 2 5 (b70_82 (d + 4) (fW (d + 4) kd70 K) K))))))))))))))))) : FC) [some (fx 22), some (gr c), some (ti a), some (ti n), some (ti pi), y5, y6, y7, y8, y9] [ti sp] (sh, M5, nx, zl) := by
        intro sp last hsp hlast kk
        have ok : ∀ t ∈ tkS f a pi sp, tkOK t := tkS_ok h0
        have tlen := tkS_len (f := f) (a := a) (b := pi) (e := sp) ⟨h0, by omega⟩
        refine gather_Y (d := d + 1) hs hnc (by omega) (fM M5 F5) (by omega) (by omega) hw m5 rfl n5 c5 (fun M6 F6 n6 c6 l6 v6 y6' d6 => ?_)
        obtain ⟨T, gT⟩ : ∃ T : List (Int × Int), T = tkS f a pi sp := ⟨_, rfl⟩
        rw [← gT] at ok tlen l6 v6 y6' d6
        have cB := cyS_b T
        have dB := cdN_b T
        have b6 : pbV M6 Bs := pbV_F b5 (F6.2 18 (by omega) (by omega)) (F6.2 19 (by omega) (by omega)) (F6.1 23 (by omega) (by omega) (by omega) (by omega) (by omega) (by omega) (by omega)) (F6.1 24 (by omega) (by omega) (by omega) (by omega) (by omega) (by omega) (by omega))
        have F16 : pkF M M6 := fun x hx => by rw [F6.1 x (by omega) (by omega) (by omega) (by omega) (by omega) (by omega) (by omega)]; exact F5 x hx
        refine makeLengths_Y (d := d + 1) (n := 286) (li := 15) (c := cyS T) cq29 (by omega) (by omega) (by omega) big286 (fun s s0 s1 => ⟨y6' s s0 s1, (cB s).1, by have := (cB s).2; omega⟩) (fun M7 F7 A7 C7 => ?_)
        rw [← laT_286 ok] at A7 C7
        have k7 : ∀ x : Nat, x ≠ 33 → x ≠ 34 → x ≠ 30 → x ≠ 31 → x ≠ 65 → x ≠ 66 → x ≠ 67 → M7 x = M6 x := F7
        refine makeLengths_Y (d := d + 1) (n := 30) (li := 15) (c := cdN T) cq36 (by omega) (by omega) (by omega) big30 (fun s s0 s1 => ⟨by rw [k7 39 (by omega) (by omega) (by omega) (by omega) (by omega) (by omega) (by omega)]; exact d6 s s0 s1, (dB s).1, by have := (dB s).2; omega⟩) (fun M8 F8 A8 C8 => ?_)
        rw [← lbT_30 ok] at A8 C8
        have k8 : ∀ x : Nat, x ≠ 40 → x ≠ 41 → x ≠ 37 → x ≠ 38 → x ≠ 65 → x ≠ 66 → x ≠ 67 → M8 x = M7 x := F8
        have L8 : ∀ s : Nat, s < 286 → M8 33 s = laT T s ∧ 0 ≤ laT T s ∧ laT T s ≤ 15 := fun s hs => ⟨by rw [k8 33 (by omega) (by omega) (by omega) (by omega) (by omega) (by omega) (by omega)]; exact A7 s hs, laT_b s⟩
        have L9 : ∀ s : Nat, s < 30 → M8 40 s = lbT T s ∧ 0 ≤ lbT T s ∧ lbT T s ≤ 15 := fun s hs => ⟨A8 s hs, lbT_b s⟩
        refine tellLengths_Y (d := d + 1) (la := laT T) (lb := lbT T) (h := hTT T) (al := hTT T + dTT T) L8 L9 rfl rfl (fun M9 F9 t9 => ?_)
        rw [show teS (hrow (laT T) (lbT T) (hTT T)) (hTT T + dTT T) = seT T from rfl] at t9
        have so := seT_ok ok
        have sl := seT_len ok
        have hr := hTT_r ok
        have dr := dTT_r (T := T)
        have tu := tuL_r (ltT T)
        have t2 := tl2_b ok
        refine makeLengths_Y (d := d + 1) (n := 19) (li := 7) (c := cnT (seT T)) cq43 (by omega) (by omega) (by omega) big19 (fun s s0 s1 => ⟨t9.2.2 s s0 s1, (cnT_b (seT T) s).1, by have := (cnT_b (seT T) s).2; omega⟩) (fun N1 G1 A9 C9 => ?_)
        have k9 : ∀ x : Nat, x ≠ 47 → x ≠ 48 → x ≠ 44 → x ≠ 45 → x ≠ 65 → x ≠ 66 → x ≠ 67 → N1 x = M9 x := G1
        -- all of it
        have go : ∀ x : Nat, (x < 22 ∨ 67 < x ∨ (49 < x ∧ x < 64)) ∨ x = 23 ∨ x = 24 ∨ x = 25 ∨ x = 26 ∨ x = 27 ∨ x = 28 ∨ x = 32 ∨ x = 39 → N1 x = M6 x := fun x hx => by
          rw [k9 x (by omega) (by omega) (by omega) (by omega) (by omega) (by omega) (by omega), F9.1 x (by omega) (by omega) (by omega), k8 x (by omega) (by omega) (by omega) (by omega) (by omega) (by omega) (by omega), k7 x (by omega) (by omega) (by omega) (by omega) (by omega) (by omega) (by omega)]
        have g22 : ∀ i : Int, i ≠ 14 → N1 22 i = M6 22 i := fun i hi => by
          rw [k9 22 (by omega) (by omega) (by omega) (by omega) (by omega) (by omega) (by omega), F9.2 i hi, k8 22 (by omega) (by omega) (by omega) (by omega) (by omega) (by omega) (by omega), k7 22 (by omega) (by omega) (by omega) (by omega) (by omega) (by omega) (by omega)]
        have tdN : tdV N1 (seT T) := by
          unfold tdV at t9 ⊢
          rw [k9 22 (by omega) (by omega) (by omega) (by omega) (by omega) (by omega) (by omega), k9 64 (by omega) (by omega) (by omega) (by omega) (by omega) (by omega) (by omega), k9 46 (by omega) (by omega) (by omega) (by omega) (by omega) (by omega) (by omega)]
          exact t9
        have cA : cdT N1 33 34 (laT T) 286 := fun s hs => by
          have e33 : N1 33 = M7 33 := by rw [k9 33 (by omega) (by omega) (by omega) (by omega) (by omega) (by omega) (by omega), F9.1 33 (by omega) (by omega) (by omega), k8 33 (by omega) (by omega) (by omega) (by omega) (by omega) (by omega) (by omega)]
          have e34 : N1 34 = M7 34 := by rw [k9 34 (by omega) (by omega) (by omega) (by omega) (by omega) (by omega) (by omega), F9.1 34 (by omega) (by omega) (by omega), k8 34 (by omega) (by omega) (by omega) (by omega) (by omega) (by omega) (by omega)]
          rw [e33, e34]
          exact ⟨⟨A7 s hs, laT_b s⟩, C7 s hs⟩
        have cBd : cdT N1 40 41 (lbT T) 30 := fun s hs => by
          have e40 : N1 40 = M8 40 := by rw [k9 40 (by omega) (by omega) (by omega) (by omega) (by omega) (by omega) (by omega), F9.1 40 (by omega) (by omega) (by omega)]
          have e41 : N1 41 = M8 41 := by rw [k9 41 (by omega) (by omega) (by omega) (by omega) (by omega) (by omega) (by omega), F9.1 41 (by omega) (by omega) (by omega)]
          rw [e40, e41]
          exact ⟨⟨A8 s hs, lbT_b s⟩, C8 s hs⟩
        have cT : cdT N1 47 48 (ltT T) 19 := fun s hs => ⟨⟨A9 s hs, by have := ltT_b (T := T) s; omega⟩, C9 s hs⟩
        have FN : pkF M N1 := fun x hx => by rw [go x (Or.inl hx)]; exact F16 x hx
        have bN : pbV N1 Bs := pbV_F b6 (g22 18 (by omega)) (g22 19 (by omega)) (go 23 (by omega)) (go 24 (by omega))
        have yN : ∀ s : Int, 0 ≤ s → s < 286 → N1 32 s = cyS T s := by rw [go 32 (by omega)]; exact y6'
        have dN : ∀ s : Int, 0 ≤ s → s < 30 → N1 39 s = cdN T s := by rw [go 39 (by omega)]; exact d6
        have vN : tkW (N1 27) (N1 28) T := by rw [go 27 (by omega), go 28 (by omega)]; exact v6
        have lN : N1 22 7 = T.length := by rw [g22 7 (by omega)]; exact l6
        have m4N : N1 22 4 = w - 1 := by rw [g22 4 (by omega), F6.2 4 (by omega) (by omega)]; exact m5
        have n3N : N1 22 3 = M6 22 3 := g22 3 (by omega)
        have chN : chC N1 f a w (N1 22 3) := by
          unfold chC at c6 ⊢
          rw [n3N, go 25 (by omega), go 26 (by omega)]
          exact c6
        clear F7 A7 C7 k7 F8 A8 C8 k8 L8 L9 F9 t9 G1 A9 C9 k9 go g22 y6' d6 v6 l6 c6 b6 F6
        -- behind the first bit
        have bf := byT_b (fun s _ _ => fxA_b s) (fun s _ _ => fxB_b s) ok (by omega)
        have bm := byT_b (fun s _ _ => laT_b (T := T) s) (fun s _ _ => lbT_b (T := T) s) ok (by omega)
        have stb := stT_b (n := Bs.length) (l := sp - pi)
        have eP : ptS Bs f a pi sp last = if stT Bs.length (sp - pi) ≤ fxT2 T ∧ stT Bs.length (sp - pi) ≤ mdT T then padB (Bs ++ [last] ++ nbL 0 2) ++ nbL (sp - pi) 16 ++ nbL (65535 - (sp - pi)) 16 ++ sbL f (a + pi) (sp - pi).toNat else if fxT2 T ≤ mdT T then Bs ++ [last] ++ nbL 1 2 ++ tksL fxA 288 fxB 32 T else Bs ++ [last] ++ hdL (ltT T) (seT T) (hTT T) (dTT T) ++ tksL (laT T) 288 (lbT T) 32 T := by
          rw [gT]
          rfl
        have emd : mdT T = 17 + 3 * tuL (ltT T) + byT (laT T) (lbT T) T + tlB2 (ltT T) (seT T) := rfl
        have epl : fxT2 T = 3 + byT fxA fxB T := rfl
        have est : stT Bs.length (sp - pi) = 3 + ((8 - (Bs.length + 3) % 8) % 8 : Nat) + 32 + 8 * (sp - pi) := rfl
        have B108 : (last = 0 ∨ last = 1) → b70_108 (d + 4) (fW (d + 4) kd70 K) K [some (fx 22), some (gr c), some (ti a), some (ti n), some (ti pi), some (ti sp), y6, y7, y8, y9] [ti last, fx 22] (sh, N1, nx, zl) := by
          intro l01
          have nb1 : nbL last 1 = [last] := by
            show [] ++ [last / 2 ^ 0 % 2] = [last]
            rw [show (2 : Int) ^ 0 = 1 from rfl, Int.ediv_one, show last % 2 = last by omega]
            rfl
          refine putBits_Y (d := d + 2) (n := 1) bN (by rw [show (2 : Int) ^ 1 = 2 from rfl]; omega) (by omega) (by omega) (fun N2 G2 b2 => ?_)
          rw [nb1] at b2
          obtain ⟨C, gC⟩ : ∃ C : List Int, C = Bs ++ [last] := ⟨_, rfl⟩
          rw [← gC] at b2 eP
          have lC : C.length = Bs.length + 1 := by rw [gC, List.length_append]; rfl
          have F2 : pkF M N2 := fun x hx => by rw [G2.1 x (by omega) (by omega) (by omega)]; exact FN x hx
          have P2 : pkC N2 := pkC_F hC F2
          have v2 : tkW (N2 27) (N2 28) T := by rw [G2.1 27 (by omega) (by omega) (by omega), G2.1 28 (by omega) (by omega) (by omega)]; exact vN
          have l2 : N2 22 7 = T.length := by rw [G2.2 7 (by omega) (by omega)]; exact lN
          have td2 : tdV N2 (seT T) := by
            unfold tdV at tdN ⊢
            rw [G2.2 14 (by omega) (by omega), G2.1 64 (by omega) (by omega) (by omega), G2.1 46 (by omega) (by omega) (by omega)]
            exact tdN
          have cA2 := cdT_F cA (G2.1 33 (by omega) (by omega) (by omega)) (G2.1 34 (by omega) (by omega) (by omega))
          have cB2 := cdT_F cBd (G2.1 40 (by omega) (by omega) (by omega)) (G2.1 41 (by omega) (by omega) (by omega))
          have cT2 := cdT_F cT (G2.1 47 (by omega) (by omega) (by omega)) (G2.1 48 (by omega) (by omega) (by omega))
          have e19 := b2.1.2.1.2
          rw [lC] at e19
          refine moreBits_Y (d := d + 2) l2 (by omega) v2 ok ?_
          refine fixedBits_Y (d := d + 3) (T := T) (by rw [G2.1 32 (by omega) (by omega) (by omega)]; exact yN) (by rw [G2.1 39 (by omega) (by omega) (by omega)]; exact dN) (fun s hs => (P2.2.1 s hs).1.1) (fun s hs => (P2.2.2 s hs).1.1) ?_
          have sfx := cyS_sum fxA fxB T ok
          have sla := cyS_sum (laT T) (lbT T) T ok
          have slt := cnT_sum (ltT T) (seT T) (fun p hp => by have := (so p hp).1; omega)
          have DONE : ∀ (N3 : FM) (y5 y6 y7 y8 y9 : Option TV), pbF N2 N3 → pbV N3 (ptS Bs f a pi sp last) → b70_237 (d + 4) (fW (d + 4) kd70 K) K [some (fx 22), some (gr c), some (ti a), some (ti n), some (ti pi), y5, y6, y7, y8, y9] [] (sh, N3, nx, zl) := by
            intro N3 y5 y6 y7 y8 y9 G3 b3
            have G13 := pbF_t G2 G3
            refine kk N3 y5 y6 y7 y8 y9 (fun x hx => by rw [G13.1 x (by omega) (by omega) (by omega)]; exact FN x hx) (by rw [G13.2 4 (by omega) (by omega)]; exact m4N) (by rw [G13.2 3 (by omega) (by omega), n3N]; exact n6) ?_ b3
            unfold chC at chN ⊢
            rw [G13.2 3 (by omega) (by omega), G13.1 25 (by omega) (by omega) (by omega), G13.1 26 (by omega) (by omega) (by omega)]
            exact chN
          rw [eP] at DONE
          have B151 : ∀ (st fx' : Int), st = stT Bs.length (sp - pi) - 1 → fx' = fxT2 T - 1 → ∀ y8 : Option TV, b70_151 (d + 4) (fW (d + 4) kd70 K) K [some (fx 22), some (gr c), some (ti a), some (ti n), some (ti pi), some (ti sp), some (ti (mrB T)), some (ti st), y8, y9] [ti fx'] (sh, N2, nx, zl) := by
            intro st fx' est2 efx y8
            refine madeBits_Y (d := d + 2) (T := T) (S := seT T) (la := laT T) (lb := lbT T) (lt := ltT T) (by rw [G2.1 32 (by omega) (by omega) (by omega)]; exact yN) (by rw [G2.1 39 (by omega) (by omega) (by omega)]; exact dN) td2 so (by omega) P2.1 (fun s hs => (cA2 s hs).1.1) (fun s hs => (cB2 s hs).1.1) (fun s hs => (cT2 s hs).1) ?_
            have TM : ∀ md : Int, md = mdT T - 1 → (o_is 9 (o_il 7 (o_il 8 (o_icmp .gt (b70_193 (d + 4) (fW (d + 4) kd70 K) K) (o_il 7 (o_il 9 (o_icmp .gt (b70_193 (d + 4) (fW (d + 4) kd70 K) K) (o_al 0 (o_al 1 (o_il 2 (o_il 4 (o_iadd (o_il 5 (o_il 4 (o_isub (o_callv (d + 4) 97 3 5 (b70_237 (d + 4) (fW (d + 4) kd70 K) K)))))))))))))))) : FC) [some (fx 22), some (gr c), some (ti a), some (ti n), some (ti pi), some (ti sp), some (ti (mrB T)), some (ti st), some (ti fx'), y9] [ti md] (sh, N2, nx, zl) := by
              intro md hmd
              have B193 : ¬(stT Bs.length (sp - pi) ≤ fxT2 T ∧ stT Bs.length (sp - pi) ≤ mdT T) → b70_193 (d + 4) (fW (d + 4) kd70 K) K [some (fx 22), some (gr c), some (ti a), some (ti n), some (ti pi), some (ti sp), some (ti (mrB T)), some (ti st), some (ti fx'), some (ti md)] [] (sh, N2, nx, zl) := by
                intro c0
                rw [if_neg c0] at DONE
                refine ⟨by omega, fun u => ?_, fun u => ?_⟩
                · rw [if_neg (by omega)] at DONE
                  refine putLengths_Y (d := d + 1) (la := laT T) (lb := lbT T) (lt := ltT T) (S := seT T) (h := hTT T) (dd := dTT T) (fun s hs => (cA2 s hs).1) (fun s hs => (cB2 s hs).1) cT2 (fun s _ _ => (ltT_b s).2) td2 so (by omega) P2.1 ⟨rfl, hr.1⟩ rfl b2 (by omega) (fun N3 G3 b3 => ?_)
                  have lh := hdL_len (lt := ltT T) (fun s _ _ => by have := ltT_b (T := T) s; omega) so (hTT T) (dTT T)
                  refine putSymbols_Y (d := d + 1) (T := T) (la := laT T) (lb := lbT T) cq29 cq36 (by omega) (by omega) (by omega) (cdT_F cA2 (G3.1 33 (by omega) (by omega) (by omega)) (G3.1 34 (by omega) (by omega) (by omega))) (cdT_F cB2 (G3.1 40 (by omega) (by omega) (by omega)) (G3.1 41 (by omega) (by omega) (by omega))) (by rw [G3.2 7 (by omega) (by omega)]; exact l2) (by omega) (by rw [G3.1 27 (by omega) (by omega) (by omega), G3.1 28 (by omega) (by omega) (by omega)]; exact v2) ok b3 (by rw [List.length_append]; omega) (fun N4 G4 b4 => ?_)
                  rw [tks_286 ok] at b4
                  exact DONE N4 _ _ _ _ _ (pbF_t G3 G4) b4
                · rw [if_pos (by omega)] at DONE
                  refine putBits_Y (d := d + 2) (n := 2) b2 ⟨by decide, by decide⟩ (by omega) (by omega) (fun N3 G3 b3 => ?_)
                  have F3 : pkF M N3 := fun x hx => by rw [G3.1 x (by omega) (by omega) (by omega)]; exact F2 x hx
                  have P3 := pkC_F hC F3
                  refine putSymbols_Y (d := d + 1) (T := T) (la := fxA) (lb := fxB) cq50 cq57 (by omega) (by omega) (by omega) P3.2.1 P3.2.2 (by rw [G3.2 7 (by omega) (by omega)]; exact l2) (by omega) (by rw [G3.1 27 (by omega) (by omega) (by omega), G3.1 28 (by omega) (by omega) (by omega)]; exact v2) ok b3 (by rw [List.length_append, nbL_len]; omega) (fun N4 G4 b4 => ?_)
                  exact DONE N4 _ _ _ _ _ (pbF_t G3 G4) b4
              refine ⟨by omega, fun u => B193 (by omega), fun u => ?_⟩
              refine ⟨by omega, fun u2 => B193 (by omega), fun u2 => ?_⟩
              rw [if_pos (by omega)] at DONE
              have PSt := fun (K : Option TV → FH → Prop) kk => putStored_Y (d := d + 1) (nx := nx) (zl := zl) (K := K) (M := N2) (B := C) (a := a + pi) (n := (sp - pi).toNat) hs hnc (by omega) (by omega) (by omega) b2 (by omega) kk
              rw [show ((sp - pi).toNat : Int) = sp - pi by omega, fM N2 F2] at PSt
              refine PSt _ (fun N3 G3 b3 => ?_)
              exact DONE N3 _ _ _ _ _ G3 b3
            exact TM _ (by omega)
          exact B151 _ _ (by omega) (by omega) y8
        rcases hlast with ⟨q1, q2⟩ | ⟨q1, q2⟩
        · refine ⟨by omega, fun _ => ?_, fun z => absurd z (by omega)⟩
          rw [q1] at B108
          exact B108 (Or.inl rfl)
        · refine ⟨by omega, fun z => absurd q2 z, fun _ => ?_⟩
          rw [q1] at B108
          exact B108 (Or.inr rfl)
      by_cases cc : pi + 4096 < n
      · rw [if_pos cc] at e
        refine PT _ 0 rfl (Or.inl ⟨rfl, by omega⟩) (fun M9 y5 y6 y7 y8 y9 F9 m9 n9 c9 b9 => ?_)
        rw [show min n (pi + 4096) = pi + 4096 by omega] at n9 b9
        have p := ptS_len (T := tkS f a pi (pi + 4096)) (tkS_ok h0) (B := Bs) (last := 0) rfl (by omega)
        have s := stT_b (n := Bs.length) (l := pi + 4096 - pi)
        exact ih (pi + 4096) _ M9 y5 y6 y7 y8 y9 (by omega) (by omega) (by omega) (by omega) (by omega) F9 m9 n9 c9 b9 e
      · rw [if_neg cc] at e
        refine PT _ 1 rfl (Or.inr ⟨rfl, by omega⟩) (fun M9 y5 y6 y7 y8 y9 F9 m9 n9 c9 b9 => ?_)
        rw [show min n (pi + 4096) = n by omega, e] at b9
        refine s70_34 (d + 4) K _ _ _ ?_
        refine ⟨by omega, fun _ => ?_, fun z => by omega⟩
        exact E34 M9 _ y5 y6 y7 y8 y9 F9 b9
  exact L34 17 0 _ M4 none none none none none (by omega) (by omega) (by omega) (by omega) (by show 16 + _ + _ ≤ _; omega) FA e4.2.1 (by rw [e4.1]; omega) (by rw [e4.1]; exact CH0) B0 rfl
end PACK
