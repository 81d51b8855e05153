/-! QUERIES: read; the reference's loop, and the call -/
def bdM (m fr : Int) : Prop := fr < 0 ∨ m < 0 ∨ 16384 < m
section MREAD
variable {d nx zl : Nat} {K : Option TV → FH → Prop} {sh : Nat → Option Shp} {M : FM} {IR IS LR LS : List Int} {B ids F n s A : Int} {pl h f fg : Int → Int}
theorem mread_Y {M0 : FM} {j fr m : Int} (hi : -2147483648 ≤ j ∧ j ≤ 2147483647) (hfr : -9223372036854775808 ≤ fr ∧ fr ≤ 9223372036854775807) (hm : -2147483648 ≤ m ∧ m ≤ 2147483647) (hV : VV KC WW M0) (e91 : M 168 91 = M0 168 91) (e92 : M 168 92 = M0 168 92)
    (h8' : inq M0 j → s8M M IR IS LR LS B ids F n pl h f fg s A ∧ j ≤ n ∧ (∀ i : Int, 0 ≤ i → i < F → 0 ≤ fsF f B fg i) ∧ (kdT (le (lf IR) (pl j) 2) = 2 → fdP f (lf IR) (fsF f B fg) B A (pl j)))
    (k0 : ¬ (inq M0 j ∧ kdT (le (lf IR) (pl j) 2) = 2 ∧ ¬ bdM m fr) → K (some (ti (-1))) (sh, M, nx, zl))
    (k1 : inq M0 j → kdT (le (lf IR) (pl j) 2) = 2 → ¬ bdM m fr → ∀ M2 : FM, mrF M M2 → M2 168 4 = rdN (fSz (lf IR) (pl j)) fr m → (∀ i : Int, 0 ≤ i → i < rdN (fSz (lf IR) (pl j)) fr m → M2 170 i % 256 = ctF f (lf IR) fg B (pl j) (fr + i) % 256) → K (some (ti (rdN (fSz (lf IR) (pl j)) fr m))) (sh, M2, nx, zl)) : fm_Y (d + 7) 394 [.ref 168, .int (Int32.ofInt j), .long (Int64.ofInt fr), .int (Int32.ofInt m)] (sh, M, nx, zl) K := by
  refine m394 [fx 168, ti j, tj fr, ti m] ?_
  refine isInode_Y hi hV e91 e92 (fun z hz => ?_)
  rcases hz.symm with ⟨z1, z2⟩ | ⟨z1, z2⟩
  · rw [z1]
    exact ⟨by omega, fun _ => k0 (fun q => z2 q.1), fun q => absurd rfl q⟩
  rw [z1]
  obtain ⟨h8, jn, hfs, hfd⟩ := h8' z2
  have j1 := z2.2.1
  obtain ⟨hL, c98, ⟨c2, c3⟩, a4⟩ := id h8
  have hB := hL.1.1.2.1
  have n65 := hL.1.1.1.2.2.2
  have Fr := hL.1.1.2.2.1
  have hv := hL.2.1
  obtain ⟨ap, hd0⟩ := nd_ok hB.2.1 hv j1 jn
  have hT := hd0.2.1
  have h16 := hd0.1
  have kr : 1 ≤ kdT (le (lf IR) (pl j) 2) ∧ kdT (le (lf IR) (pl j) 2) ≤ 7 := by
    unfold kdT
    split <;> omega
  refine ⟨by omega, fun q => by omega, fun _ => ?_⟩
  refine whereIs_Y hL ⟨j1, jn⟩ ?_
  refine kindAt_Y hL.1.1 (by omega) hT ?_
  refine ⟨by omega, fun w => k0 (fun q => w q.2.1), fun w => ?_⟩
  refine ⟨by omega, fun w1 => k0 (fun q => q.2.2 (Or.inl w1)), fun w1 => ?_⟩
  refine ⟨by omega, fun w2 => k0 (fun q => q.2.2 (Or.inr (Or.inl w2))), fun w2 => ?_⟩
  refine ⟨by omega, fun w3 => ?_, fun w3 => k0 (fun q => q.2.2 (Or.inr (Or.inr (by omega))))⟩
  have k := k1 z2 w (fun q => by unfold bdM at q; omega)
  obtain ⟨f1, f2, f3⟩ := fl_ok hB.2.1 hv j1 jn w
  refine openFile_Y hL ⟨j1, jn⟩ w (fun MO FO ov => ?_)
  have hfd' := hfd w
  obtain ⟨p, gp⟩ : ∃ p : Int, p = pl j := ⟨_, rfl⟩
  rw [← gp] at k f1 f2 f3 ov hfd'
  have p32 : 0 ≤ p ∧ p + 32 ≤ IR.length := by omega
  clear f2
  have fxr := fxT_r (le (lf IR) p 2)
  have f4 := f1.2.2.1
  have f6 := f1.2.1
  have fz := f1.1
  have f5 := f1.2.2.2
  have b0 := bk_r (B := B) hB.2.1 fz.1
  have eb : bkC B (lf IR) p = bcN B (fSz (lf IR) p) (fFr (lf IR) p) := rfl
  rw [← eb] at f4 f5
  obtain ⟨hfrag, hbw⟩ := hfd'
  have BW := bw_at (f := f) (g := lf IR) (B := B) (A := A) (p := p) (bkC B (lf IR) p).toNat 0 hbw
  obtain ⟨⟨o4, o5, o6, o7⟩, o8, o9⟩ := id ov
  obtain ⟨zz, gz⟩ : ∃ zz : Int, zz = fSz (lf IR) p := ⟨_, rfl⟩
  rw [← gz] at k fz o4
  have rr : 0 ≤ rdN zz fr m ∧ rdN zz fr m ≤ m ∧ (0 < rdN zz fr m → fr + rdN zz fr m ≤ zz) := by
    unfold rdN
    omega
  obtain ⟨R, gR⟩ : ∃ R : Int, R = rdN zz fr m := ⟨_, rfl⟩
  have gR' : R = max 0 (min m (zz - fr)) := gR
  rw [← gR] at k rr
  have FM0 : mrF M MO := mr_of FO
  have Z := dv0 (x := zz) (B := B) (by omega) (by omega)
  obtain ⟨zq, gzq⟩ : ∃ zq : Int, zq = zz / B := ⟨_, rfl⟩
  rw [← gzq] at Z
  obtain ⟨zB, gzB⟩ : ∃ zB : Int, zB = zq * B := ⟨_, rfl⟩
  rw [← gzB] at Z
  have zB0 : 0 ≤ zB := by
    rw [gzB]
    exact Int.mul_nonneg Z.2.2.2 (by omega)
  have zmr := mod_r zz hB.2.1
  have ebz : bkC B (lf IR) p = zq + (if fFr (lf IR) p = 4294967295 ∧ 0 < zz % B then 1 else 0) := by
    rw [eb, gzq, gz]
    rfl
  have fr4 : 0 ≤ fFr (lf IR) p ∧ fFr (lf IR) p < 4294967296 := by
    have q1 := le_nn (lf IR) 4 (p + 20)
    have q2 := le_lt4 (lf IR) (p + 20)
    have q3 := le_nn (lf IR) 4 (p + 44)
    have q4 := le_lt4 (lf IR) (p + 44)
    unfold fFr
    split <;> omega
  have fo0 : 0 ≤ fOf (lf IR) p := by
    have y1 := le_nn (lf IR) 4 (p + 24)
    have y2 := le_nn (lf IR) 4 (p + 48)
    unfold fOf
    split <;> omega
  -- all bytes right: the end
  have FIN : ∀ (M1 : FM), mrF M M1 → M1 168 4 = R → (∀ x : Int, fr ≤ x → x < fr + R → M1 170 (x - fr) % 256 = ctF f (lf IR) fg B p x % 256) → K (some (ti (M1 168 4))) (sh, M1, nx, zl) := by
    intro M1 F1 e4 hb
    rw [e4]
    refine k M1 F1 e4 (fun i i0 i1 => ?_)
    have := hb (fr + i) (by omega) (by omega)
    rw [show fr + i - fr = i by omega] at this
    exact this
  -- the blocks
  have L : ∀ (G c : Nat) (ci lies : Int) (M1 : FM) (y10 y11 y12 y13 y14 : Option TV), (bkC B (lf IR) p - ci).toNat < G → ci = c → ci ≤ bkC B (lf IR) p → lies = pbN (lf IR) p c → mrF M M1 → M1 168 4 = R → ofV M1 (lf IR) B p → (∀ x : Int, fr ≤ x → x < fr + R → x < ci * B → M1 170 (x - fr) % 256 = ctF f (lf IR) fg B p x % 256) → fm_X (d + 6) kd394 105 [some (fx 168), some (ti j), some (tj fr), none, some (ti m), some (tj (fr + R)), none, some (tj lies), none, some (ti ci), y10, y11, y12, y13, y14] [] (sh, M1, nx, zl) K := by
    intro G
    induction G with
    | zero => intro c ci lies M1 y10 y11 y12 y13 y14 q; omega
    | succ G ih =>
      intro c ci lies M1 y10 y11 y12 y13 y14 q1 q2 q3 q4 F1 e4 ov1 hb
      have h81 := mr_s8 h8 F1
      have hL1 := h81.1
      have hB1 := hL1.1.1.2.1
      obtain ⟨⟨u4, u5, u6, u7⟩, u8, u9⟩ := id ov1
      rw [← gz] at u4
      refine s394_105 (d + 6) K _ _ _ ?_
      refine ⟨by omega, fun v => ?_, fun v => ?_⟩
      · -- behind the blocks
        have ec : ci = bkC B (lf IR) p := by omega
        refine ⟨by omega, ?_⟩
        refine ⟨by omega, ?_⟩
        rw [u4, hB1.1]
        refine ⟨by omega, fun v1 => ?_, fun v1 => ?_⟩
        · refine FIN M1 F1 e4 (fun x x0 x1 => hb x x0 x1 ?_)
          rw [u6] at v1
          rw [ec, ebz]
          by_cases c2 : 0 < zz % B
          · rw [if_pos ⟨v1, c2⟩, Int.add_mul, Int.one_mul, ← gzB]
            omega
          · rw [if_neg (fun q => c2 q.2), Int.add_zero, ← gzB]
            omega
        have fne : fFr (lf IR) p ≠ 4294967295 := by rw [u6] at v1; exact v1
        have ebq : bkC B (lf IR) p = zq := by
          rw [ebz, if_neg (fun q => fne q.1)]
          omega
        have hb2 : ∀ x : Int, fr ≤ x → x < fr + R → x < zB → M1 170 (x - fr) % 256 = ctF f (lf IR) fg B p x % 256 := by
          intro x x0 x1 x2
          refine hb x x0 x1 ?_
          rw [ec, ebq, ← gzB]
          exact x2
        refine ⟨by omega, fun v2 => FIN M1 F1 e4 (fun x x0 x1 => hb2 x x0 x1 (by omega)), fun v2 => ?_⟩
        refine ⟨by omega, fun v3 => FIN M1 F1 e4 (fun x x0 x1 => by omega), fun v3 => ?_⟩
        have g1 := f6 fne
        have hfo := hfrag fne
        rw [← gz] at hfo g1
        refine readFragment_Y (i := M1 168 126) h81 (by omega) (fun M3 F3 o3 rr3 => ?_)
        rw [u6] at o3 rr3
        obtain ⟨o, ho, hol⟩ := rv_some (o := bdS f B (s64 (le fg (16 * fFr (lf IR) p) 8)) (le fg (16 * fFr (lf IR) p + 8) 4)) (x := fsF f B fg (fFr (lf IR) p)) rfl (hfs _ fr4.1 g1.1)
        have hag := lf_agr (o3 o ho)
        have F13 := mr_trans F1 (mr_rb F3)
        have ov3 := ofV_to ov1 (fun i hi => F3.2 i (by omega))
        obtain ⟨⟨t4, t5, t6, t7⟩, t8, t9⟩ := id ov3
        rw [← gz] at t4
        have hB3 := (mr_s8 h8 F13).1.1.1.2.1
        have e43 : M3 168 4 = R := (F3.2 4 (by omega)).trans e4
        refine ⟨by omega, ?_⟩
        refine ⟨by omega, ?_⟩
        rw [t7, t4, hB3.1]
        refine show_Y (d := d + 5) (by omega) (by omega) (Or.inl rfl) (by omega) (fun M5 F5 b5 l5 => ?_)
        refine FIN M5 (mr_trans F13 (mr_out F5)) (by rw [F5 168 (by omega)]; exact e43) (fun x x0 x1 => ?_)
        by_cases c2 : x < zB
        · rw [l5 x x0 x1 (by omega), F3.1 170 (by omega) (by omega) (by omega)]
          exact hb2 x x0 x1 c2
        · have D := dvq (x := x) (k := zq) (B := B) (by omega) (by omega) (by omega)
          rw [b5 x x0 x1 (by omega) (by omega), if_pos rfl]
          have ecx : ctF f (lf IR) fg B p x = lf (oGt (bdS f B (s64 (le fg (16 * fFr (lf IR) p) 8)) (le fg (16 * fFr (lf IR) p + 8) 4))) (fOf (lf IR) p + (x - zB)) := by
            unfold ctF
            rw [D.1, D.2, if_neg (by omega), ← gzB]
          rw [ecx, ho]
          rw [show x - (zz - zz % B) = x - zB by omega]
          exact hag _ (by omega) (by omega)
      · -- a block
        rw [u8] at v
        have bp := f5 ci (by omega) v
        have en : blN (lf IR) p ci = le (lf IR) (p + fxT (le (lf IR) p 2) + 4 * ci) 4 := rfl
        rw [← en] at bp
        obtain ⟨bp1, bp2, bp3⟩ := bp
        have bm := bc_mul (f := fFr (lf IR) p) (n := zz) hB.2.1 fz.1 (show 0 ≤ ci by omega) (by rw [gz]; exact v)
        have br := bb_r (B := B) (g := lf IR) (p := p) hB.2.1 (by omega) (show 0 ≤ ci by omega) v
        have ebb : bbN B (lf IR) p ci = min B (zz - ci * B) := by
          rw [gz]
          rfl
        obtain ⟨cB, gcB⟩ : ∃ cB : Int, cB = ci * B := ⟨_, rfl⟩
        rw [← gcB] at bm ebb hb
        have up : (ci + 1) * B = cB + B := by rw [Int.add_mul, Int.one_mul, gcB]
        refine ⟨by omega, ?_⟩
        refine ⟨by omega, ?_⟩
        rw [hB1.1]
        refine blockOf_Y hL1 ov1 (by omega) (by omega) (fun x1 => ?_)
        rw [← gcB]
        obtain ⟨bv, gbv⟩ : ∃ bv : Int, bv = blN (lf IR) p ci := ⟨_, rfl⟩
        rw [← gbv] at bp1 bp2 bp3 x1 ⊢
        have NX : ∀ (M5 : FM) (y10 y11 y13 y14 : Option TV), mrF M M5 → M5 168 4 = R → ofV M5 (lf IR) B p → (∀ x : Int, fr ≤ x → x < fr + R → x < cB + B → M5 170 (x - fr) % 256 = ctF f (lf IR) fg B p x % 256) → b394_211 (d + 6) (fW (d + 6) kd394 K) K [some (fx 168), some (ti j), some (tj fr), none, some (ti m), some (tj (fr + R)), none, some (tj lies), none, some (ti ci), y10, y11, some (ti bv), y13, y14] [] (sh, M5, nx, zl) := by
          intro M5 y10 y11 y13 y14 F5 e5 ov5 hb5
          refine ⟨by omega, ?_⟩
          refine ih (c + 1) (ci + 1) (lies + bv % 16777216) M5 _ _ _ _ _ (by omega) (by omega) (by omega) ?_ F5 e5 ov5 (fun x x0 x1 x2 => hb5 x x0 x1 (by omega))
          have e : pbN (lf IR) p (c + 1) = pbN (lf IR) p c + blN (lf IR) p c % 16777216 := rfl
          rw [e, ← q2, ← gbv, q4]
        have NM : ¬ (cB < fr + R ∧ fr < cB + B) → b394_158 (d + 6) (fW (d + 6) kd394 K) K [some (fx 168), some (ti j), some (tj fr), none, some (ti m), some (tj (fr + R)), none, some (tj lies), none, some (ti ci), some (tj cB), none, some (ti bv), y13, y14] [] (sh, M1, nx, zl) := by
          intro no
          refine ⟨by omega, fun _ => ?_, fun q => absurd rfl q⟩
          exact NX M1 _ _ _ _ F1 e4 ov1 (fun x x0 x1 x2 => hb x x0 x1 (by omega))
        refine ⟨by omega, fun v1 => NM (by omega), fun v1 => ?_⟩
        refine ⟨by omega, ?_⟩
        rw [hB1.1]
        refine ⟨by omega, fun v2 => NM (by omega), fun v2 => ?_⟩
        refine ⟨by omega, fun q => by omega, fun _ => ?_⟩
        -- it is read and shown
        have SH : ∀ (M3 : FM) (y14 : Int), mrF M M3 → M3 168 4 = R → ofV M3 (lf IR) B p → M3 170 = M1 170 → (bv ≠ 0 → ∀ x : Int, cB ≤ x → x < cB + bbN B (lf IR) p ci → M3 264 (x - cB) % 256 = ctF f (lf IR) fg B p x % 256) → b394_183 (d + 6) (fW (d + 6) kd394 K) K [some (fx 168), some (ti j), some (tj fr), none, some (ti m), some (tj (fr + R)), none, some (tj lies), none, some (ti ci), some (tj cB), none, some (ti bv), some (ti 1), none] [ti y14] (sh, M3, nx, zl) := by
          intro M3 y14 F3 e43 ov3 e170 hb3
          have hB3 := (mr_s8 h8 F3).1.1.1.2.1
          refine bytesOf_Y hB3 ov3 (by omega) (by omega) v (fun br2 => ?_)
          have SW : ∀ zr : Int, (zr = 0 ∧ bv ≠ 0 ∨ zr = 1 ∧ bv = 0) → b394_205 (d + 6) (fW (d + 6) kd394 K) K [some (fx 168), some (ti j), some (tj fr), none, some (ti m), some (tj (fr + R)), none, some (tj lies), none, some (ti ci), some (tj cB), none, some (ti bv), some (ti 1), some (ti y14)] [ti zr, ti (bbN B (lf IR) p ci), ti 0, tj cB, fx 168] (sh, M3, nx, zl) := by
            intro zr hzr
            refine show_Y (d := d + 5) (by omega) (by omega) (by omega) (by omega) (fun M5 F5 b5 l5 => ?_)
            refine NX M5 _ _ _ _ (mr_trans F3 (mr_out F5)) (by rw [F5 168 (by omega)]; exact e43) (ofV_to ov3 (fun i hi => by rw [F5 168 (by omega)])) (fun x x0 x1 x2 => ?_)
            by_cases c2 : x < cB
            · rw [l5 x x0 x1 (by omega), e170]
              exact hb x x0 x1 c2
            · rw [b5 x x0 x1 (by omega) (by omega)]
              rcases hzr with ⟨r1, r2⟩ | ⟨r1, r2⟩
              · rw [if_pos r1, Int.zero_add]
                exact hb3 r2 x (by omega) (by omega)
              · rw [if_neg (by omega)]
                have D := dvq (x := x) (k := ci) (B := B) (by omega) (by omega) (by omega)
                have ecx : ctF f (lf IR) fg B p x = 0 := by
                  unfold ctF
                  rw [D.1, if_pos v, if_pos (by omega)]
                rw [ecx]
          exact ⟨by omega, fun v4 => SW 0 (by omega), fun v4 => SW 1 (by omega)⟩
        refine ⟨by omega, fun v4 => ?_, fun v4 => SH M1 0 F1 e4 ov1 rfl (fun q => absurd v4 q)⟩
        have W := BW c (Nat.zero_le _) (by omega) (by rw [← q2, ← gbv]; exact v4)
        rw [← q2, ← gbv, ← q4] at W
        obtain ⟨W1, W2, W3⟩ := W
        obtain ⟨o, ho, hol⟩ := rv_some W3 br.1
        refine readBlock_Y h81 (by omega) bp2 (by omega) (fun M3 F3 o3 rr3 => ?_)
        have hag := lf_agr (o3 o ho)
        refine SH M3 _ (mr_trans F1 (mr_rb F3)) ((F3.2 4 (by omega)).trans e4) (ofV_to ov1 (fun i hi => F3.2 i (by omega))) (F3.1 170 (by omega) (by omega) (by omega)) (fun _ x x0 x1 => ?_)
        have D := dvq (x := x) (k := ci) (B := B) (by omega) (by omega) (by omega)
        have ecx : ctF f (lf IR) fg B p x = lf (oGt (bdS f B lies bv)) (x - cB) := by
          unfold ctF
          rw [D.1, D.2, if_pos v, ← gbv, if_neg v4, q4, show ci.toNat = c by omega, ← gcB]
        rw [ecx, ho]
        exact hag _ (by omega) (by omega)
  -- what is to be read
  have B85 : ∀ to : Int, to = fr + R → b394_85 (d + 6) (fW (d + 6) kd394 K) K [some (fx 168), some (ti j), some (tj fr), none, some (ti m), none, none, none, none, none, none, none, none, none, none] [tj to] (sh, MO, nx, zl) := by
    intro to eto
    rw [eto]
    obtain ⟨P, gP⟩ : ∃ P : FM, P = pq MO 168 4 (fr + R - fr) := ⟨_, rfl⟩
    have pm : ∀ i : Int, i ≠ 4 → P 168 i = MO 168 i := fun i hi => by rw [gP, pq_ne _ _ _ _ hi]
    have po : ∀ c : Nat, c ≠ 168 → P c = MO c := fun c hc => by rw [gP, pq_o _ _ _ hc]
    have p4 : P 168 4 = R := by rw [gP, pq_at]; omega
    have FP : mrF M P := mr_trans FM0 ⟨fun c c1 _ _ _ => po c c1, fun i _ i2 _ => pm i i2⟩
    have ovP : ofV P (lf IR) B p := ofV_to ov (fun i hi => pm i (by omega))
    have T : (o_al 0 (o_get 12 125 125 (o_ls 7 (o_ic 0 (o_is 9 (fW (d + 6) kd394 K 105))))) : FC) [some (fx 168), some (ti j), some (tj fr), none, some (ti m), some (tj (fr + R)), none, none, none, none, none, none, none, none, none] [] (sh, P, nx, zl) := by
      have T0 := L _ 0 0 (P 168 125) P none none none none none (Nat.lt_succ_self _) rfl (by omega) ovP.1.2.1 FP p4 ovP (fun x x0 x1 x2 => by omega)
      exact T0
    rw [gP] at T
    exact T
  refine ⟨by omega, fun v => ?_, fun v => B85 fr (by omega)⟩
  refine ⟨by omega, ?_⟩
  refine ⟨by omega, fun v2 => ?_, fun v2 => ?_⟩
  · refine ⟨by omega, ?_⟩
    exact B85 (fr + m) (by omega)
  · have T := B85 zz (by omega)
    rw [← o4] at T
    exact T
end MREAD
section CALLREAD
variable {L d : Nat} {xs : Nat → Int32}
theorem call_read {j fr m : Int} (hj : -2147483648 ≤ j ∧ j ≤ 2147483647) (hfr : -9223372036854775808 ≤ fr ∧ fr ≤ 9223372036854775807) (hm : -2147483648 ≤ m ∧ m ≤ 2147483647) : ca_I (VV KC WW) L xs (d + 8) 231 394 [.int (Int32.ofInt j), .long (Int64.ofInt fr), .int (Int32.ofInt m)] := by
  intro k H hR
  obtain ⟨sh, M, nx, zl⟩ := H
  have hV : VV KC WW M := hR.2.2.2.2
  have hO : outR M := hR.2.2.1
  obtain ⟨f, gf⟩ : ∃ f : Int → Int, f = M 211 := ⟨_, rfl⟩
  obtain ⟨s, gs⟩ : ∃ s : Int, s = M 168 59 := ⟨_, rfl⟩
  have W : inq M j → ftO f s ∧ mtC M f s ∧ mtM M f s ∧ (1 ≤ j ∧ j ≤ le f 4 4) := inq_W hV gf gs
  have DT : inq M j → (∀ i : Int, 0 ≤ i → i < le f 16 4 → 0 ≤ fsF f (le f 12 4) (lf (rwR (qF f))) i) ∧ (kdT (le (lf (rwR (qI f))) (plf f j) 2) = 2 → fdP f (lf (rwR (qI f))) (fsF f (le f 12 4) (lf (rwR (qF f)))) (le f 12 4) (s64 (le f 64 8)) (plf f j)) := by
    intro q
    obtain ⟨w1, -, -, jr⟩ := W q
    have h8 := w1.2.2.2.2.2.2.2
    exact ⟨h8.2.1, fun hk => h8.2.2 j jr.1 jr.2 hk⟩
  have BAD : ¬ (inq M j ∧ kdT (le (lf (rwR (qI f))) (plf f j) 2) = 2 ∧ ¬ bdM m fr) → ∃ x : Int, (some (ti (-1)) : Option TV) = some (ti x) ∧ (sh 0 = sh 0 ∧ M 0 = M 0) ∧ fm_Y (d + 8) 394 [.ref 168, .int (Int32.ofInt j), .long (Int64.ofInt fr), .int (Int32.ofInt m)] (sh, M, nx, zl) (fun w2 H2 => w2 = some (ti x) ∧ RR (VV KC WW) L xs (k + 1) H2) := by
    intro no
    refine ⟨-1, rfl, ⟨rfl, rfl⟩, ?_⟩
    exact mread_Y (d := d + 1) hj hfr hm hV rfl rfl (fun q => ⟨(W q).2.2.1.1, (W q).2.2.2.2, (DT q).1, (DT q).2⟩) (fun _ => ⟨rfl, RR_next hR⟩) (fun q1 q2 q3 => absurd ⟨q1, q2, q3⟩ no)
  refine m231 [fx 3, ti j, tj fr, ti m] ?_
  refine has_Y hj hV (fun z hz => ?_)
  rcases hz.symm with ⟨z1, z2⟩ | ⟨z1, z2⟩
  · rw [z1]
    exact ⟨by omega, fun _ => BAD (fun q => z2 q.1), fun q => absurd rfl q⟩
  rw [z1]
  obtain ⟨w1, w2, w3, jr⟩ := W z2
  obtain ⟨-, hd0⟩ := nd_ok w2.1.1.1.1.2.1.2.1 w2.1.1.2.1 jr.1 jr.2
  have hT := hd0.2.1
  have kr : 1 ≤ kdT (le (lf (rwR (qI f))) (plf f j) 2) ∧ kdT (le (lf (rwR (qI f))) (plf f j) 2) ≤ 7 := by
    unfold kdT
    split <;> omega
  refine ⟨by omega, fun q => by omega, fun _ => ?_⟩
  refine kindOf_Y w2.1.1 jr ?_
  refine ⟨by omega, fun w => BAD (fun q => w q.2.1), fun w => ?_⟩
  refine ⟨by omega, fun v1 => BAD (fun q => q.2.2 (Or.inl v1)), fun v1 => ?_⟩
  refine ⟨by omega, fun v2 => BAD (fun q => q.2.2 (Or.inr (Or.inl v2))), fun v2 => ?_⟩
  refine ⟨by omega, fun v3 => ?_, fun v3 => BAD (fun q => q.2.2 (Or.inr (Or.inr (by omega))))⟩
  have nb : ¬ bdM m fr := fun q => by unfold bdM at q; omega
  have rr : 0 ≤ rdN (fSz (lf (rwR (qI f))) (plf f j)) fr m ∧ rdN (fSz (lf (rwR (qI f))) (plf f j)) fr m ≤ m := by
    unfold rdN
    omega
  refine copyBytes_Y (a := 6) (b := 7) (na := 16384) w2.1 (DT z2).1 jr w ((DT z2).2 w) (by omega) (by omega) (rowS_6 sh) (by unfold rwO; omega) (by omega) (fun M1 F1 s1 b1 => ?_)
  have g1 : ∀ c : Nat, c ≠ 6 → c ≠ 7 → (c < 129 ∨ 150 < c) → c ≠ 165 → c ≠ 166 → M1 c = M c := F1
  refine ⟨M1 6 1, rfl, ⟨rfl, g1 0 (by omega) (by omega) (by omega) (by omega) (by omega)⟩, ?_⟩
  have e168 : M1 168 = M 168 := g1 168 (by omega) (by omega) (by omega) (by omega) (by omega)
  have w31 := s8M_x w3.1 (M2 := M1) (fun c hc => g1 c (by omega) (by omega) (by omega) (by omega) (by omega)) (fun i _ => by rw [e168])
  refine mread_Y (d := d + 1) hj hfr hm hV (by rw [e168]) (by rw [e168]) (fun q => ⟨w31, jr.2, (DT q).1, (DT q).2⟩) (fun no => absurd ⟨z2, w, nb⟩ no) (fun _ _ _ M2 F2 s2 b2 => ⟨by rw [s1], ?_⟩)
  have FF : ∀ c : Nat, (c = 0 ∨ c = 1 ∨ c = 2 ∨ c = 3 ∨ c = 4 ∨ c = 5 ∨ 8 ≤ c ∧ c ≤ 14 ∨ c = 17 ∨ 50 ≤ c ∧ c ≤ 63 ∨ 97 ≤ c ∧ c ≤ 128 ∨ 151 ≤ c ∧ c ≤ 164 ∨ c = 167 ∨ c = 169 ∨ 171 ≤ c ∧ c ≤ 187 ∨ 211 ≤ c ∧ c ≤ 263 ∨ 265 ≤ c) → M2 c = M c := fun c hc => (F2.1 c (by omega) (by omega) (by omega) (by omega)).trans (g1 c (by omega) (by omega) (by omega) (by omega) (by omega))
  have GG : ∀ i : Int, (i < 50 ∨ 57 < i) → i ≠ 4 → (i < 124 ∨ 129 < i) → M2 168 i = M 168 i := fun i a b c => (F2.2 i a b c).trans (by rw [e168])
  refine RR_q hR (fun c hc => FF c (by omega)) (fun i hi h4 => GG i (by omega) h4 (by omega)) (FF 3 (by omega)) ⟨fun c hc => FF c (by omega), fun i hi => GG i (by omega) (by omega) (by omega)⟩ ⟨?_, ?_, ?_⟩
  · rw [s2]
    omega
  · rw [F2.1 6 (by omega) (by omega) (by omega) (by omega), s1, s2]
  · rw [F2.1 7 (by omega) (by omega) (by omega) (by omega), s2]
    refine sl_congr _ _ _ (fun i hi => ?_)
    rw [Int.zero_add, b1 _ (by omega) (by omega), b2 _ (by omega) (by omega)]
end CALLREAD
