/-! QUERIES: read; the class copies -/
def rwO (a b : Nat) : Prop := (a < 97 ∨ 167 < a) ∧ (b < 97 ∨ 167 < b) ∧ a ≠ 1 ∧ a ≠ 2 ∧ b ≠ 1 ∧ b ≠ 2
theorem rwO_ne {a b c : Nat} (h : rwO a b) (hc : 97 ≤ c ∧ c ≤ 167 ∨ c = 1 ∨ c = 2) : c ≠ a ∧ c ≠ b := by
  unfold rwO at h
  omega
def cbF (a b : Nat) (M M2 : FM) : Prop := ∀ c : Nat, c ≠ a → c ≠ b → (c < 129 ∨ 150 < c) → c ≠ 165 → c ≠ 166 → M2 c = M c
def cbK (c S R x B : Int) : Prop := c = 0 ∨ S = R ∨ (x % B = 0 ∧ 4096 * (c - 1) ≤ S)
theorem cb_s8 {M M2 : FM} {IR IS LR LS : List Int} {B ids F n s A : Int} {pl h f fg : Int → Int} {a b : Nat} (h8 : s8C M IR IS LR LS B ids F n pl h f fg s A) (ho : rwO a b) (F2 : cbF a b M M2) : s8C M2 IR IS LR LS B ids F n pl h f fg s A := by
  have g : ∀ c : Nat, (97 ≤ c ∧ c ≤ 128 ∨ 151 ≤ c ∧ c ≤ 164 ∨ c = 1 ∨ c = 2) → M2 c = M c := fun c hc => F2 c (rwO_ne ho (by omega)).1 (rwO_ne ho (by omega)).2 (by omega) (by omega) (by omega)
  obtain ⟨a1, a2, a3, a4, a5⟩ := h8
  refine ⟨ltC_to a1 (fun c hc => g c (by omega)), ?_, ?_, ?_, uFx_to a5 (fun c hc => g c (by omega))⟩
  · rw [g 97 (by omega)]
    exact a2
  · rw [g 98 (by omega), g 99 (by omega)]
    exact a3
  · rw [g 119 (by omega), g 120 (by omega)]
    exact a4
theorem cb_ld {M M2 M3 : FM} {a b : Nat} (F2 : cbF a b M M2) (F3 : d8F M2 M3) (e67 : M3 167 = M2 167) : cbF a b M M3 := by
  intro x x1 x2 x3 x4 x5
  by_cases e : x = 167
  · rw [e, e67, ← e]
    exact F2 x x1 x2 x3 x4 x5
  · exact (F3 x x3 x4 x5 e).trans (F2 x x1 x2 x3 x4 x5)
theorem cb_pt {M M3 M5 : FM} {a b : Nat} (F : cbF a b M M3) (F5 : ∀ x : Nat, x ≠ a → x ≠ b → M5 x = M3 x) : cbF a b M M5 := fun x x1 x2 x3 x4 x5 => (F5 x x1 x2).trans (F x x1 x2 x3 x4 x5)
theorem d8_row {M2 M3 : FM} {a b : Nat} (ho : rwO a b) (F3 : d8F M2 M3) : M3 a = M2 a ∧ M3 b = M2 b := by
  unfold rwO at ho
  exact ⟨F3 a (by omega) (by omega) (by omega) (by omega), F3 b (by omega) (by omega) (by omega) (by omega)⟩
section CREAD
variable {d nx zl : Nat} {K : Option TV → FH → Prop} {sh : Nat → Option Shp} {M : FM} {IR IS LR LS : List Int} {B ids F n s A : Int} {pl h f fg : Int → Int} {a b na : Nat}
theorem copyBytes_Y {j fr m : Int} (h8 : s8C M IR IS LR LS B ids F n pl h f fg s A) (hfs : ∀ i : Int, 0 ≤ i → i < F → 0 ≤ fsF f B fg i) (hj : 1 ≤ j ∧ j ≤ n) (hk : kdT (le (lf IR) (pl j) 2) = 2) (hfd : fdP f (lf IR) (fsF f B fg) B A (pl j)) (hfr : 0 ≤ fr ∧ fr ≤ 9223372036854775807) (hm : 0 ≤ m ∧ m ≤ 65536) (hr : rowS sh a b na) (hab : rwO a b) (hna : m ≤ na)
    (k : ∀ M2 : FM, cbF a b M M2 → M2 a 1 = rdN (fSz (lf IR) (pl j)) fr m → (∀ i : Int, 0 ≤ i → i < rdN (fSz (lf IR) (pl j)) fr m → M2 b i % 256 = ctF f (lf IR) fg B (pl j) (fr + i) % 256) → K none (sh, M2, nx, zl)) : fm_Y (d + 7) 215 [.ref 97, .int (Int32.ofInt j), .long (Int64.ofInt fr), .int (Int32.ofInt m), .ref a] (sh, M, nx, zl) K := by
  have hL := h8.1
  have hB := hL.1.1.2.1
  have n65 := hL.1.1.1.2.2.2
  have Fr := h8.2.2.2.1.1
  have hv := hL.2.1
  have hz0 := hr.2.2.2.2
  obtain ⟨ap, hd0⟩ := nd_ok hB.2.1 hv hj.1 hj.2
  have hT := hd0.2.1
  obtain ⟨f1, f2, f3⟩ := fl_ok hB.2.1 hv hj.1 hj.2 hk
  refine m215 [fx 97, ti j, tj fr, ti m, gr a] ?_
  refine placeC_Y hL hj ?_
  obtain ⟨p, gp⟩ : ∃ p : Int, p = pl j := ⟨_, rfl⟩
  rw [← gp] at k ap hd0 hT f1 f2 f3 hk hfd ⊢
  have p32 : 0 ≤ p ∧ p + 32 ≤ IR.length ∧ (7 < le (lf IR) p 2 → p + 56 ≤ IR.length) := by omega
  clear f2
  have fxr := fxT_r (le (lf IR) p 2)
  have f4 := f1.2.2.1
  have f6 := f1.2.1
  have fz := f1.1
  have f5 := f1.2.2.2
  have b0 := bk_r (B := B) hB.2.1 fz.1
  have eb : bkC B (lf IR) p = bcN B (fSz (lf IR) p) (fFr (lf IR) p) := rfl
  rw [← eb] at f4 f5
  obtain ⟨hfrag, hbw⟩ := hfd
  have BW := bw_at (f := f) (g := lf IR) (B := B) (A := A) (p := p) (bkC B (lf IR) p).toNat 0 hbw
  refine ⟨by omega, ?_⟩
  refine fileSize_Y hL.1.1 (by omega) hT (fun _ => ?_)
  obtain ⟨z, gz⟩ : ∃ z : Int, z = fSz (lf IR) p := ⟨_, rfl⟩
  rw [← gz] at k fz ⊢
  refine ⟨by omega, ?_⟩
  refine ⟨by omega, ?_⟩
  have er : max 0 (min m (z - fr)) = rdN z fr m := rfl
  rw [er]
  have rr : 0 ≤ rdN z fr m ∧ rdN z fr m ≤ m ∧ (0 < rdN z fr m → fr + rdN z fr m ≤ z) := by
    unfold rdN
    omega
  obtain ⟨R, gR⟩ : ∃ R : Int, R = rdN z fr m := ⟨_, rfl⟩
  rw [← gR] at k rr ⊢
  have hpb := hr.1.1
  have CL := clearG_Y (d := d + 5) (nx := nx) (zl := zl) (M := M) (sh := sh) (K := fun w h2 => (o_ic 0 (o_is 8 (fW (d + 6) kd215 K 42)) : FC) [some (fx 97), some (ti j), some (tj fr), none, some (ti m), some (gr a), some (ti p), some (ti R), none, none, none, none, none, none, none] (w.toList ++ []) h2) hr (fun M1 F1 s1 o1 => ?_)
  · exact ⟨⟨_, hpb⟩, CL⟩
  have L : ∀ (G : Nat) (S c : Int) (M2 : FM) (y9 y10 y11 y12 y13 y14 : Option TV), (R - S).toNat < G → (0 ≤ S ∧ S ≤ R) → (0 ≤ c ∧ c ≤ 30) → cbK c S R (fr + S) B → cbF a b M M2 → M2 a 1 = S → (∀ i : Int, 0 ≤ i → i < S → M2 b i % 256 = ctF f (lf IR) fg B p (fr + i) % 256) → fm_X (d + 6) kd215 42 [some (fx 97), some (ti j), some (tj fr), none, some (ti m), some (gr a), some (ti p), some (ti R), some (ti c), y9, y10, y11, y12, y13, y14] [] (sh, M2, nx, zl) K := by
    intro G
    induction G with
    | zero => intro S c M2 y9 y10 y11 y12 y13 y14 q; omega
    | succ G ih =>
      intro S c M2 y9 y10 y11 y12 y13 y14 q1 q2 q3 q4 F2 s2 b2
      refine s215_42 (d + 6) K _ _ _ ?_
      refine ⟨by omega, fun w => by omega, fun w => ?_⟩
      refine ⟨_, hpb, ?_⟩
      refine ⟨by omega, fun w1 => ?_, fun w1 => ?_⟩
      · have eS : S = R := by omega
        rw [eS] at s2 b2
        exact k M2 F2 s2 b2
      have h82 : s8C M2 IR IS LR LS B ids F n pl h f fg s A := cb_s8 h8 hab F2
      have hL2 := h82.1
      have e9 := h82.2.1.1
      refine ⟨_, hpb, ?_⟩
      refine ⟨by omega, ?_⟩
      refine ⟨by omega, ?_⟩
      refine ⟨by omega, ?_⟩
      refine ⟨by omega, ?_⟩
      refine ⟨by omega, ?_⟩
      rw [s2, e9]
      have D := dv0 (x := fr + S) (B := B) (by omega) (by omega)
      obtain ⟨I, gI⟩ : ∃ I : Int, I = (fr + S) / B := ⟨_, rfl⟩
      rw [← gI] at D ⊢
      obtain ⟨IB, gIB⟩ : ∃ IB : Int, IB = I * B := ⟨_, rfl⟩
      rw [← gIB] at D
      obtain ⟨D1, D2, D3, D4⟩ := D
      have I40 : I * 4096 ≤ IB := by
        rw [gIB]
        exact Int.mul_le_mul_of_nonneg_left hB.2.1 D4
      have hlt : fr + S < z := by omega
      have kdv : ∀ q : Int, 0 ≤ q → fr + S + q < IB + B → (fr + (S + q)) / B = I ∧ (fr + (S + q)) % B = fr + S + q - IB := by
        intro q q0 q1
        have := dvq (x := fr + (S + q)) (k := I) (B := B) (by omega) (by omega) (by omega)
        omega
      have up : ((I + 1) * B : Int) = IB + B := by rw [Int.add_mul, Int.one_mul, gIB]
      have c5 : 0 ≤ c + 1 ∧ c + 1 ≤ 30 := by
        rcases id q4 with y | y | y
        · omega
        · omega
        · omega
      -- a step more
      have NX : ∀ (M5 : FM) (T : Int) (y9 y10 y11 y12 y13 y14 : Option TV), (0 < T ∧ T ≤ R - S) → (S + T = R ∨ T = B - (fr + S - IB)) → cbF a b M M5 → M5 a 1 = S + T → (∀ i : Int, 0 ≤ i → i < T → M5 b (S + i) % 256 = ctF f (lf IR) fg B p (fr + (S + i)) % 256) → (∀ i : Int, i < S → M5 b i = M2 b i) → fm_X (d + 6) kd215 42 [some (fx 97), some (ti j), some (tj fr), none, some (ti m), some (gr a), some (ti p), some (ti R), some (ti (c + 1)), y9, y10, y11, y12, y13, y14] [] (sh, M5, nx, zl) K := by
        intro M5 T y9 y10 y11 y12 y13 y14 hT5 hst F5 s5 b5 l5
        refine ih (S + T) (c + 1) M5 _ _ _ _ _ _ (by omega) (by omega) c5 ?_ F5 s5 (fun i i0 i1 => ?_)
        · rcases hst with e | e
          · exact Or.inr (Or.inl e)
          · refine Or.inr (Or.inr ⟨?_, ?_⟩)
            · have := dvq (x := fr + (S + T)) (k := I + 1) (B := B) (by omega) (by omega) (by omega)
              omega
            · rcases q4 with y | y | y
              · omega
              · omega
              · omega
        · by_cases c2 : i < S
          · rw [l5 i c2]
            exact b2 i i0 c2
          · have := b5 (i - S) (by omega) (by omega)
            rw [show S + (i - S) = i by omega] at this
            exact this
      refine ⟨by omega, ?_⟩
      refine blockCount_Y hL2.1.1 p32 hT (by omega) ?_
      rw [← eb]
      refine ⟨by omega, fun w2 => ?_, fun w2 => ?_⟩
      · -- a block
        have bp := f5 I D4 w2
        have en : blN (lf IR) p I = le (lf IR) (p + fxT (le (lf IR) p 2) + 4 * I) 4 := rfl
        have bm := bc_mul (f := fFr (lf IR) p) hB.2.1 fz.1 D4 (by rw [gz]; exact w2)
        refine ⟨_, hpb, ?_⟩
        refine ⟨by omega, ?_⟩
        refine blockNumber_Y hL2.1.1 (by omega) hT (by omega) (fun u u1 u2 u3 => ?_)
        rw [← en] at bp u1 u3
        obtain ⟨bp1, bp2, bp3⟩ := bp
        have eu : u = blN (lf IR) p I := by omega
        clear u3 u2
        have eI : ((I.toNat : Nat) : Int) = I := by omega
        refine ⟨by omega, fun w3 => ?_, fun w3 => ?_⟩
        · have W := BW I.toNat (Nat.zero_le _) (by omega) (by rw [eI]; omega)
          rw [eI] at W
          obtain ⟨W1, W2, W3⟩ := W
          obtain ⟨o, ho, hol⟩ := rv_some W3 (by have := bb_r (B := B) (g := lf IR) (p := p) hB.2.1 (by omega) D4 w2; omega)
          have ebb : bbN B (lf IR) p I = min B (z - IB) := by
            rw [gIB, gz]
            rfl
          refine placeOfBlock_Y hL2.1.1 (by omega) hT (by omega) (fun q q0 q1 => ?_) ?_
          · have := (f5 q q0 (by omega)).1
            have en2 : blN (lf IR) p q = le (lf IR) (p + fxT (le (lf IR) p 2) + 4 * q) 4 := rfl
            omega
          rw [eu]
          refine ldB_Y h82 (by omega) bp2 (by omega) (fun M3 F3 e67 o3 rr3 => ?_)
          have F23 := cb_ld F2 F3 e67
          obtain ⟨e3a, e3b⟩ := d8_row hab F3
          have hag := lf_agr (o3 o ho)
          have s3 : M3 a 1 = S := by rw [e3a]; exact s2
          refine ⟨⟨_, hpb⟩, ?_⟩
          refine putG_Y (c := 166) (nc := 65536) hr rfl (by omega) (rwO_ne hab (by omega)).1 (rwO_ne hab (by omega)).2 (by omega) (by omega) (by omega) (by omega) (by omega) (fun M5 F5 s5 o5 b5 l5 => ?_)
          refine NX M5 (min (R - M2 a 1) (M2 97 9 - (fr + S) % B)) _ _ _ _ _ _ (by omega) (by omega) (cb_pt F23 F5) (by omega) (fun i i0 i1 => ?_) (fun i i0 => ?_)
          · have e5 := b5 i i0 i1
            rw [s3] at e5
            rw [e5]
            have kd := kdv i i0 (by omega)
            have ec : ctF f (lf IR) fg B p (fr + (S + i)) = lf (oGt (bdS f B (pbN (lf IR) p I.toNat) (blN (lf IR) p I))) (fr + S + i - IB) := by
              unfold ctF
              rw [kd.1, kd.2, if_pos w2, if_neg (by omega)]
            rw [ec, ho]
            have := hag ((fr + S) % B + i) (by omega) (by omega)
            rw [this]
            show lf o ((fr + S) % B + i) % 256 = lf o (fr + S + i - IB) % 256
            rw [show (fr + S) % B + i = fr + S + i - IB by omega]
          · rw [l5 i (by omega), e3b]
        · refine ⟨⟨_, hpb⟩, ?_⟩
          refine zerosG_Y hr (by omega) (by omega) (by omega) (fun M5 F5 s5 o5 b5 l5 => ?_)
          refine NX M5 (min (R - M2 a 1) (M2 97 9 - (fr + S) % B)) _ _ _ _ _ _ (by omega) (by omega) (cb_pt F2 F5) (by omega) (fun i i0 i1 => ?_) (fun i i0 => l5 i (by omega))
          have e5 := b5 i i0 i1
          rw [s2] at e5
          rw [e5]
          have kd := kdv i i0 (by omega)
          have ec : ctF f (lf IR) fg B p (fr + (S + i)) = 0 := by
            unfold ctF
            rw [kd.1, if_pos w2, if_pos (by omega)]
          rw [ec]
      · -- the fragment
        have Z := dv0 (x := z) (B := B) (by omega) (by omega)
        obtain ⟨zq, gzq⟩ : ∃ zq : Int, zq = z / B := ⟨_, rfl⟩
        rw [← gzq] at Z
        have ebz : bkC B (lf IR) p = zq + (if fFr (lf IR) p = 4294967295 ∧ 0 < z % B then 1 else 0) := by
          rw [eb, gzq, gz]
          rfl
        have Izq : I ≤ zq := by
          by_cases c2 : zq < I
          · have : (zq + 1) * B ≤ I * B := Int.mul_le_mul_of_nonneg_right (by omega) (by omega)
            rw [Int.add_mul, Int.one_mul] at this
            omega
          · omega
        have Ieq : I = zq := by
          have : zq ≤ bkC B (lf IR) p := by
            rw [ebz]
            split <;> omega
          omega
        rw [← Ieq, ← gIB] at Z
        have fne : fFr (lf IR) p ≠ 4294967295 := by
          intro e
          rw [if_pos ⟨e, by omega⟩] at ebz
          omega
        have g1 := f6 fne
        have hfo := hfrag fne
        rw [← gz] at hfo g1
        have fr0 : 0 ≤ fFr (lf IR) p := by
          have y1 := le_nn (lf IR) 4 (p + 20)
          have y2 := le_nn (lf IR) 4 (p + 44)
          unfold fFr
          split <;> omega
        have fo0 : 0 ≤ fOf (lf IR) p := by
          have y1 := le_nn (lf IR) 4 (p + 24)
          have y2 := le_nn (lf IR) 4 (p + 48)
          unfold fOf
          split <;> omega
        refine fragment_Y hL2.1.1 p32 hT (fun x x1 x2 x3 => ?_)
        have ex : x = fFr (lf IR) p := by omega
        rw [ex]
        clear x3 x2
        refine loadFragment_Y h82 (by omega) (fun M3 F3 e67 o3 rr3 => ?_)
        obtain ⟨o, ho, hol⟩ := rv_some (o := bdS f B (s64 (le fg (16 * fFr (lf IR) p) 8)) (le fg (16 * fFr (lf IR) p + 8) 4)) (x := fsF f B fg (fFr (lf IR) p)) rfl (hfs _ fr0 g1.1)
        have F23 := cb_ld F2 F3 e67
        obtain ⟨e3a, e3b⟩ := d8_row hab F3
        have hag := lf_agr (o3 o ho)
        have s3 : M3 a 1 = S := by rw [e3a]; exact s2
        have hL3 := (s8C_to h82 F3).1
        refine fragmentOffset_Y hL3.1.1 p32 hT (fun orr => ?_)
        refine ⟨_, hpb, ?_⟩
        refine ⟨⟨_, hpb⟩, ?_⟩
        refine putG_Y (c := 166) (nc := 65536) hr rfl (by omega) (rwO_ne hab (by omega)).1 (rwO_ne hab (by omega)).2 (by omega) (by omega) (by omega) (by omega) (by omega) (fun M5 F5 s5 o5 b5 l5 => ?_)
        refine NX M5 (R - M3 a 1) _ _ _ _ _ _ (by omega) (by omega) (cb_pt F23 F5) (by omega) (fun i i0 i1 => ?_) (fun i i0 => ?_)
        · have e5 := b5 i i0 i1
          rw [s3] at e5
          rw [e5]
          have kd := kdv i i0 (by omega)
          have ec : ctF f (lf IR) fg B p (fr + (S + i)) = lf (oGt (bdS f B (s64 (le fg (16 * fFr (lf IR) p) 8)) (le fg (16 * fFr (lf IR) p + 8) 4))) (fOf (lf IR) p + (fr + S + i - IB)) := by
            unfold ctF
            rw [kd.1, kd.2, if_neg (by omega)]
          rw [ec, ho]
          have := hag (fOf (lf IR) p + (fr + S) % B + i) (by omega) (by omega)
          rw [this]
          show lf o (fOf (lf IR) p + (fr + S) % B + i) % 256 = lf o (fOf (lf IR) p + (fr + S + i - IB)) % 256
          rw [show fOf (lf IR) p + (fr + S) % B + i = fOf (lf IR) p + (fr + S + i - IB) by omega]
        · rw [l5 i (by omega), e3b]
  exact L _ 0 0 M1 _ _ _ _ _ _ (Nat.lt_succ_self _) (by omega) (by omega) (Or.inl rfl) (fun x x1 _ _ _ _ => F1 x x1) s1 (fun i i0 i1 => by omega)
end CREAD
