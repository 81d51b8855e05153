/-! UNPACKING, the class: takeCodes, stored bytes, the check -/
theorem bv_split (b c : BitVec 32) : (b &&& ~~~c) + (b &&& c) = b := by
  rw [BitVec.add_eq_or_of_and_eq_zero]
  · ext i hi
    simp only [BitVec.getElem_or, BitVec.getElem_and, BitVec.getElem_not]
    cases b[i] <;> cases c[i] <;> rfl
  · ext i hi
    simp only [BitVec.getElem_and, BitVec.getElem_not, BitVec.getElem_zero]
    cases b[i] <;> cases c[i] <;> rfl
theorem and_m8 (x : Int) : Int32.ofInt x &&& Int32.ofInt (-8) = Int32.ofInt (x / 8 * 8) := by
  apply Int32.toBitVec_inj.1
  show BitVec.ofInt 32 x &&& BitVec.ofInt 32 (-8) = BitVec.ofInt 32 (x / 8 * 8)
  have h1 : BitVec.ofInt 32 x &&& BitVec.ofInt 32 7 = BitVec.ofInt 32 (x % 8) := bv_mask (w := 32) (k := 3) (by omega) x
  have h2 := bv_split (BitVec.ofInt 32 x) (BitVec.ofInt 32 7)
  have h3 : ~~~(BitVec.ofInt 32 7) = BitVec.ofInt 32 (-8) := by decide
  rw [h3, h1] at h2
  have h4 : BitVec.ofInt 32 (x / 8 * 8) + BitVec.ofInt 32 (x % 8) = BitVec.ofInt 32 x := by
    rw [← BitVec.ofInt_add, show x / 8 * 8 + x % 8 = x by omega]
  exact (BitVec.add_left_inj _).1 (h2.trans h4.symm)
def stS (f : Int → Int) (E mo p : Int) (o : List Int) : St :=
  if (p + 7) / 8 * 8 + 32 ≤ E ∧ bv f ((p + 7) / 8 * 8) 16 + bv f ((p + 7) / 8 * 8 + 16) 16 = 65535 ∧ (p + 7) / 8 * 8 + 32 + 8 * bv f ((p + 7) / 8 * 8) 16 ≤ E ∧ o.length + bv f ((p + 7) / 8 * 8) 16 ≤ mo then some ((p + 7) / 8 * 8 + 32 + 8 * bv f ((p + 7) / 8 * 8) 16, o ++ sl f ((p + 7) / 8 + 4) (bv f ((p + 7) / 8 * 8) 16).toNat) else none
def stO (f : Int → Int) (E mo : Int) : St → St
  | some (p, o) => stS f E mo p o
  | none => none
section USTORED
variable {d nx zl : Nat} {K : Option TV → FH → Prop} {sh : Nat → Option Shp} {M0 M : FM} {sc mc nS nM : Nat} {st : St}
theorem take_YI {cc c3 c4 c5 nR fr nF n : Nat} {ni at0 z : Int} {ls : Int → Int} (hni : ni = n) (hcd : cdS sh cc c3 c4 c5 nR) (hn : n ≤ nR) (hfr : shp sh fr = some (.inl (.int, nF))) (hne : fr ≠ c3 ∧ fr ≠ c4 ∧ fr ≠ c5) (ha : 0 ≤ at0 ∧ at0 + n ≤ nF) (hnF : nF ≤ 400) (hls : ∀ s : Nat, s < n → M fr (at0 + s) = ls s ∧ 0 ≤ ls s ∧ ls s ≤ 15) (hz : z = 0 ∨ z = 1)
    (k : ∀ (r : Int) (M2 : FM), (r = 1 ∧ okL ls n z ∨ r = 0 ∧ ¬ okL ls n z) → cdV M2 c3 c4 ls n → (∀ c : Nat, c ≠ c3 → c ≠ c4 → c ≠ c5 → M2 c = M c) → K (some (ti r)) (sh, M2, nx, zl)) : fm_Y (d + 1) 16 [.ref cc, .ref fr, .int (Int32.ofInt at0), .int (Int32.ofInt ni), .int (Int32.ofInt z)] (sh, M, nx, zl) K := by
  rw [hni]
  exact take_Y hcd hn hfr hne ha hnF hls hz k
theorem takeCodes_Y {p h e : Int} {o : List Int} {r : Int → Int} (hC : uC sh M0 sc mc nS nM) (hR : uR M0 M mc (some (p, o))) (h15 : M 129 15 = h) (h16 : M 129 16 = e) (hh : 257 ≤ h ∧ h ≤ 286) (he : 1 ≤ e ∧ e ≤ 30) (hr : ∀ j : Int, 0 ≤ j → j < h + e → M 165 j = r j ∧ 0 ≤ r j ∧ r j ≤ 15)
    (k0 : ∀ M2 : FM, ¬ (0 < r 256 ∧ okL r h.toNat 0 ∧ okL (fun s => r (h + s)) e.toNat 1) → uK M0 M2 mc → K (some (ti 0)) (sh, M2, nx, zl))
    (k1 : ∀ M2 : FM, 0 < r 256 ∧ okL r h.toNat 0 ∧ okL (fun s => r (h + s)) e.toNat 1 → uR M0 M2 mc (some (p, o)) → cdV M2 136 131 r h.toNat → cdV M2 143 138 (fun s => r (h + s)) e.toNat → K (some (ti 1)) (sh, M2, nx, zl)) : fm_Y (d + 2) 152 [.ref 129] (sh, M, nx, zl) K := by
  have hC0 := hC
  obtain ⟨⟨⟨u1, u2⟩, u3, u4⟩, ⟨u5, u6, u7, u8⟩, ⟨u9, u10⟩, ⟨u11, u12⟩, u13, u14⟩ := hC
  refine m152 [fx 129] ?_
  have e256 := hr 256 (by omega) (by omega)
  refine ⟨by omega, ?_⟩
  refine ⟨by omega, fun w => ⟨Or.inl rfl, k0 M (fun z => by omega) hR.1⟩, fun w => ?_⟩
  refine take_YI (ls := r) (n := h.toNat) (nF := 320) (at0 := 0) (z := 0) (by omega) (cd130 sh) (by omega) rfl (by decide) (by omega) (by omega) (fun s hs => ?_) (Or.inl rfl) (fun v M3 q1 q2 q3 => ?_)
  · rw [show (0 : Int) + (s : Int) = s by omega]
    exact hr s (by omega) (by omega)
  · have hR3 : uR M0 M3 mc (some (p, o)) := uR_up hR (fun c hc => q3 c (by omega) (by omega) (by omega)) (fun c h1 _ => q3 c (by omega) (by omega) (by omega))
    rcases q1 with ⟨q1, q4⟩ | ⟨q1, q4⟩
    · rw [q1]
      refine ⟨by omega, fun z => by omega, fun _ => ?_⟩
      have e129 : M3 129 = M 129 := q3 129 (by decide) (by decide) (by decide)
      have e165 : M3 165 = M 165 := q3 165 (by decide) (by decide) (by decide)
      have en3 : M3 129 15 = h := by rw [e129]; omega
      have en2 : M3 129 16 = e := by rw [e129]; omega
      refine take_YI (ls := fun s => r (h + s)) (n := e.toNat) (nF := 320) (at0 := M3 129 15) (z := 1) (by omega) (cd137 sh) (by omega) rfl (by decide) (by omega) (by omega) (fun s hs => by rw [e165, en3]; exact hr (h + s) (by omega) (by omega)) (Or.inr rfl) (fun v2 M4 t1 t2 t3 => ?_)
      have hR4 : uR M0 M4 mc (some (p, o)) := uR_up hR3 (fun c hc => t3 c (by omega) (by omega) (by omega)) (fun c h1 _ => t3 c (by omega) (by omega) (by omega))
      rcases t1 with ⟨t1, t4⟩ | ⟨t1, t4⟩
      · rw [t1]
        refine ⟨by omega, fun z => by omega, fun _ => ?_⟩
        exact ⟨Or.inr rfl, k1 M4 ⟨by omega, q4, t4⟩ hR4 (cdV_to q2 (t3 136 (by decide) (by decide) (by decide)) (t3 131 (by decide) (by decide) (by decide))) t2⟩
      · rw [t1]
        refine ⟨by omega, fun _ => ?_, fun z => absurd rfl z⟩
        exact ⟨Or.inl rfl, k0 M4 (fun z => t4 z.2.2) hR4.1⟩
    · rw [q1]
      refine ⟨by omega, fun _ => ?_, fun z => absurd rfl z⟩
      exact ⟨Or.inl rfl, k0 M3 (fun z => q4 z.2.1) hR3.1⟩
theorem uR_pos {p q : Int} {o : List Int} (hmc : mc ≠ 129) (hR : uR M0 M mc (some (p, o))) (hq : 0 ≤ q ∧ q ≤ M0 129 2) : uR M0 (um M 129 (ur (M 129) 1 q)) mc (some (q, o)) ∧ uk2 M (um M 129 (ur (M 129) 1 q)) := by
  have g : uk2 M (um M 129 (ur (M 129) 1 q)) := ⟨fun c hc => um_ne hc, fun i h1 _ => by rw [um_at, ur_ne h1]⟩
  obtain ⟨h1, ⟨h2, h3, h4, h5⟩, h6, h7⟩ := hR
  refine ⟨⟨uK_2 h1 hmc g, ⟨by rw [um_at, ur_at], by rw [um_at, ur_ne (by omega)]; exact h3, by rw [um_at, ur_ne (by omega)]; exact h4, by rw [um_ne hmc]; exact h5⟩, hq, h7⟩, g⟩
theorem uR_posX {q : Int} (hmc : mc ≠ 129) (hR : uR M0 M mc none) : uR M0 (um M 129 (ur (M 129) 1 q)) mc none ∧ uk2 M (um M 129 (ur (M 129) 1 q)) := by
  have g : uk2 M (um M 129 (ur (M 129) 1 q)) := ⟨fun c hc => um_ne hc, fun i h1 _ => by rw [um_at, ur_ne h1]⟩
  exact ⟨⟨uK_2 hR.1 hmc g, by rw [um_at, ur_ne (by omega)]; exact hR.2⟩, g⟩
theorem copyStored_Y (hC : uC sh M0 sc mc nS nM) (hE8 : M0 129 2 % 8 = 0) (hR : uR M0 M mc st) (k : ∀ M2 : FM, uR M0 M2 mc (stO (M0 sc) (M0 129 2) (M0 129 6 - M0 129 4) st) → uk3 M M2 mc → K none (sh, M2, nx, zl)) : fm_Y (d + 2) 141 [.ref 129] (sh, M, nx, zl) K := by
  have hC0 := hC
  obtain ⟨⟨⟨u1, u2⟩, u3, u4⟩, ⟨u5, u6, u7, u8⟩, ⟨u9, u10⟩, ⟨u11, u12⟩, u13, u14⟩ := hC
  have hmc : mc ≠ 129 := by omega
  refine m141 [fx 129] ?_
  refine ⟨(M 129 1 + 7) / 8 * 8, and_m8 _, ?_⟩
  cases st with
  | none =>
    obtain ⟨s1, s2⟩ := uR_posX (q := (M 129 1 + 7) / 8 * 8) hmc hR
    refine bits_Y (n := 16) hC0 s1 (by omega) (fun M2 t1 t2 => ?_)
    refine bits_Y (n := 16) hC0 t1 (by omega) (fun M3 t3 t4 => ?_)
    have hf : M3 129 8 % 2 = 1 := t3.2
    refine ⟨by omega, fun w => ?_, fun w => by omega⟩
    refine ⟨Or.inr rfl, ?_⟩
    exact uX_fail3 (K2 := fun M2 => K none (sh, M2, nx, zl)) hmc t3.1 (fun M4 h g => k M4 h (uk3_t (uk2_3 (uk2_t s2 (uk2_t t2 t4))) g))
  | some q =>
    obtain ⟨p, o⟩ := q
    have r1 := hR.2.1.1
    have rp := hR.2.2.1
    rw [r1]
    obtain ⟨q, hq⟩ : ∃ q : Int, q = (p + 7) / 8 * 8 := ⟨_, rfl⟩
    have hq8 : q % 8 = 0 := by omega
    have hqE : q ≤ M0 129 2 := by omega
    have ek : stO (M0 sc) (M0 129 2) (M0 129 6 - M0 129 4) (some (p, o)) = if q + 32 ≤ M0 129 2 ∧ bv (M0 sc) q 16 + bv (M0 sc) (q + 16) 16 = 65535 ∧ q + 32 + 8 * bv (M0 sc) q 16 ≤ M0 129 2 ∧ o.length + bv (M0 sc) q 16 ≤ M0 129 6 - M0 129 4 then some (q + 32 + 8 * bv (M0 sc) q 16, o ++ sl (M0 sc) (q / 8 + 4) (bv (M0 sc) q 16).toNat) else none := by
      show stS (M0 sc) (M0 129 2) (M0 129 6 - M0 129 4) p o = _
      unfold stS
      rw [← hq, show (p + 7) / 8 = q / 8 by omega]
    rw [ek] at k
    rw [← hq]
    obtain ⟨s1, s2⟩ := uR_pos (q := q) hmc hR (by omega)
    have FAIL : ∀ M4 : FM, uK M0 M4 mc → uk2 M M4 → ¬ (q + 32 ≤ M0 129 2 ∧ bv (M0 sc) q 16 + bv (M0 sc) (q + 16) 16 = 65535 ∧ q + 32 + 8 * bv (M0 sc) q 16 ≤ M0 129 2 ∧ o.length + bv (M0 sc) q 16 ≤ M0 129 6 - M0 129 4) → K none (sh, um M4 129 (ur (M4 129) 8 1), nx, zl) := by
      intro M4 x1 x2 x3
      rw [if_neg x3] at k
      exact uX_fail3 (K2 := fun M2 => K none (sh, M2, nx, zl)) hmc x1 (fun M5 h g => k M5 h (uk3_t (uk2_3 x2) g))
    refine bits_Y (n := 16) hC0 s1 (by omega) (fun M2 t1 t2 => ?_)
    refine bits_Y (n := 16) hC0 t1 (by omega) (fun M3 t3 t4 => ?_)
    have x2 := uk2_t s2 (uk2_t t2 t4)
    by_cases h16 : q + 32 ≤ M0 129 2
    · have e1 : bS (M0 sc) (M0 129 2) 16 (some (q, o)) = (bv (M0 sc) q 16, some (q + 16, o)) := bS_pos (by omega)
      have e2 : bS (M0 sc) (M0 129 2) 16 (some (q + 16, o)) = (bv (M0 sc) (q + 16) 16, some (q + 16 + 16, o)) := bS_pos (by omega)
      rw [e1] at t3 ⊢
      dsimp only at t3 ⊢
      rw [e2] at t3 ⊢
      dsimp only at t3 ⊢
      have b1 := bv_rng (M0 sc) q 16
      have b2 := bv_rng (M0 sc) (q + 16) 16
      have p16 : (2 : Int) ^ 16 = 65536 := by decide
      obtain ⟨n, hn⟩ : ∃ n : Int, n = bv (M0 sc) q 16 := ⟨_, rfl⟩
      have z1 := t3.2.1.1
      have z5 := t3.2.1.2.2.1
      have hf := t3.2.1.2.1
      have zK := t3.1
      have f2 : M3 129 2 = M0 129 2 := zK.1 2 (by omega) (by omega) (by omega) (by omega) (by omega)
      have f6 : M3 129 6 = M0 129 6 := zK.1 6 (by omega) (by omega) (by omega) (by omega) (by omega)
      have f0 : M3 129 0 = sc := by rw [zK.1 0 (by omega) (by omega) (by omega) (by omega) (by omega), u1]
      have f3 : M3 129 3 = mc := by rw [zK.1 3 (by omega) (by omega) (by omega) (by omega) (by omega), u2]
      have fs : M3 sc = M0 sc := zK.2.2 sc (by omega) u5 (by omega) (by omega)
      have z7 := t3.2.2.2
      rw [← hn] at b1 FAIL k ⊢
      refine ⟨by omega, fun w => by omega, fun w => ?_⟩
      refine ⟨by omega, fun w2 => ⟨Or.inr rfl, FAIL M3 zK x2 (fun z => w2 z.2.1)⟩, fun w2 => ?_⟩
      refine ⟨by omega, ?_⟩
      refine ⟨by omega, fun w3 => ⟨Or.inr rfl, FAIL M3 zK x2 (fun z => by omega)⟩, fun w3 => ?_⟩
      refine ⟨by omega, fun w4 => ?_, fun w4 => ⟨Or.inr rfl, FAIL M3 zK x2 (fun z => by omega)⟩⟩
      rw [if_pos (by omega)] at k
      refine ⟨fun m e => ?_, fun w5 => by omega⟩
      have em : m = sc := by omega
      subst em
      refine ⟨by omega, ?_⟩
      refine ⟨fun m2 e => ?_, fun w5 => by omega⟩
      have em : m2 = mc := by omega
      subst em
      refine ⟨.byte, nS, nM, ⟨u3, u4⟩, by omega, ⟨trivial, by decide, u8⟩, ?_⟩
      obtain ⟨R, gR⟩ : ∃ R : FM, R = um (um (um M3 m2 (cpf (M3 m) (M3 m2) (M3 129 1 / 8) (M3 129 5) n)) 129 (ur (um M3 m2 (cpf (M3 m) (M3 m2) (M3 129 1 / 8) (M3 129 5) n) 129) 1 (um M3 m2 (cpf (M3 m) (M3 m2) (M3 129 1 / 8) (M3 129 5) n) 129 1 + 8 * n))) 129 (ur (um (um M3 m2 (cpf (M3 m) (M3 m2) (M3 129 1 / 8) (M3 129 5) n)) 129 (ur (um M3 m2 (cpf (M3 m) (M3 m2) (M3 129 1 / 8) (M3 129 5) n) 129) 1 (um M3 m2 (cpf (M3 m) (M3 m2) (M3 129 1 / 8) (M3 129 5) n) 129 1 + 8 * n)) 129) 5 (um (um M3 m2 (cpf (M3 m) (M3 m2) (M3 129 1 / 8) (M3 129 5) n)) 129 (ur (um M3 m2 (cpf (M3 m) (M3 m2) (M3 129 1 / 8) (M3 129 5) n) 129) 1 (um M3 m2 (cpf (M3 m) (M3 m2) (M3 129 1 / 8) (M3 129 5) n) 129 1 + 8 * n)) 129 5 + n)) := ⟨_, rfl⟩
      have h129 : (129 : Nat) ≠ m2 := fun e => hmc e.symm
      have R129 : R 129 = ur (ur (M3 129) 1 (M3 129 1 + 8 * n)) 5 (M3 129 5 + n) := by
        rw [gR, um_at, um_at, um_ne h129, ur_ne (show (5 : Int) ≠ 1 by omega)]
      have Rm : R m2 = cpf (M0 m) (M3 m2) (q / 8 + 4) (M3 129 5) n := by
        rw [gR, um_ne hmc, um_ne hmc, um_at, fs, show M3 129 1 / 8 = q / 8 + 4 by omega]
      have Ro : ∀ c : Nat, c ≠ 129 → c ≠ m2 → R c = M3 c := fun c c1 c2 => by rw [gR, um_ne c1, um_ne c1, um_ne c2]
      have hl : (o ++ sl (M0 m) (q / 8 + 4) n.toNat).length = o.length + n.toNat := by rw [List.length_append, sl_len]
      have zz := k R ⟨⟨fun i a b c g h => ?_, fun j hj => ?_, fun c a b g h => ?_⟩, ⟨?_, ?_, ?_, ?_⟩, ?_, ?_⟩ ⟨fun c a b => ?_, fun i a b c => ?_⟩
      · rw [gR] at zz
        exact zz
      · rw [R129, ur_ne b, ur_ne a]
        exact zK.1 i a b c g h
      · rw [Rm]
        unfold cpf
        rw [if_neg (by omega)]
        exact zK.2.1 j hj
      · rw [Ro c a b]
        exact zK.2.2 c a b g h
      · rw [R129, ur_ne (by omega), ur_at]
        omega
      · rw [R129, ur_ne (by omega), ur_ne (by omega)]
        exact hf
      · rw [R129, ur_at, hl]
        omega
      · rw [Rm, hl, sl_add]
        congr 1
        · rw [sl_cpf_lo (by omega)]
          exact t3.2.1.2.2.2
        · rw [← z5, sl_cpf (by omega)]
      · omega
      · rw [hl]
        omega
      · rw [Ro c a b]
        exact x2.1 c a
      · rw [R129, ur_ne b, ur_ne a]
        exact x2.2 i a c
    · have hn : (bS (M0 sc) (M0 129 2) 16 (bS (M0 sc) (M0 129 2) 16 (some (q, o))).2).2 = none := by
        by_cases a : q + 16 ≤ M0 129 2
        · have e1 : bS (M0 sc) (M0 129 2) 16 (some (q, o)) = (bv (M0 sc) q 16, some (q + 16, o)) := bS_pos (by omega)
          rw [e1]
          show (bS (M0 sc) (M0 129 2) 16 (some (q + 16, o))).2 = none
          rw [bS_neg (by omega)]
        · have e1 : bS (M0 sc) (M0 129 2) 16 (some (q, o)) = (0, none) := bS_neg (by omega)
          rw [e1]
          rfl
      rw [hn] at t3
      have hf : M3 129 8 % 2 = 1 := t3.2
      refine ⟨by omega, fun w => ?_, fun w => by omega⟩
      exact ⟨Or.inr rfl, FAIL M3 t3.1 x2 (fun z => h16 z.1)⟩
end USTORED
