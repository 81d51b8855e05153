/-! UNPACKING, the class: a row of symbols -/
def smL (f : Int → Int) (E : Int) (lb : Int → Int) (nb : Nat) (W mo s p1 : Int) (o : List Int) : St :=
  if 285 < s then none else if E < p1 + lnM s then none else match sy f E lb nb (p1 + lnM s) with
    | none => none
    | some (t, p3) => if 29 < t then none else if E < p3 + dsM t then none else cS W mo (lnB s + bv f p1 (lnM s)) (dsB t + bv f p3 (dsM t)) (some (p3 + dsM t, o))
def smG (f : Int → Int) (E : Int) (la : Int → Int) (na : Nat) (lb : Int → Int) (nb : Nat) (W mo : Int) : Nat → Int → List Int → St
  | 0, _, _ => none
  | g + 1, p, o => match sy f E la na p with
    | none => none
    | some (s, p1) => if s = 256 then some (p1, o) else if s < 256 then (if (o.length : Int) < mo then smG f E la na lb nb W mo g p1 (o ++ [s]) else none) else match smL f E lb nb W mo s p1 o with
      | none => none
      | some (p4, o4) => smG f E la na lb nb W mo g p4 o4
/-- as the class goes -/
def smC (f : Int → Int) (E : Int) (lb : Int → Int) (nb : Nat) (W mo s : Int) (st1 : St) : St :=
  let r2 := bS f E (lnM s) st1
  let r3 := sS f E lb nb r2.2
  let r4 := bS f E (dsM r3.1) r3.2
  cS W mo (lnB s + r2.1) (dsB r3.1 + r4.1) (if 285 < s ∨ 29 < r3.1 then none else r4.2)
theorem cS_none (W mo n far : Int) : cS W mo n far none = none := rfl
theorem smC_eq (f : Int → Int) (E : Int) (lb : Int → Int) (nb : Nat) (W mo s p1 : Int) (o : List Int) : smC f E lb nb W mo s (some (p1, o)) = smL f E lb nb W mo s p1 o := by
  unfold smC smL
  by_cases h1 : 285 < s
  · rw [if_pos h1]
    show cS W mo _ _ (if 285 < s ∨ _ then none else _) = none
    rw [if_pos (Or.inl h1)]
    rfl
  · rw [if_neg h1]
    by_cases h2 : E < p1 + lnM s
    · rw [if_pos h2]
      have e : bS f E (lnM s) (some (p1, o)) = (0, none) := if_neg (by omega)
      rw [e]
      show cS W mo _ _ (if _ then none else none) = none
      split <;> rfl
    · rw [if_neg h2]
      have e : bS f E (lnM s) (some (p1, o)) = (bv f p1 (lnM s), some (p1 + lnM s, o)) := if_pos (by omega)
      rw [e]
      cases h3 : sy f E lb nb (p1 + lnM s) with
      | none =>
        have e3 := sS_none (o := o) h3
        show cS W mo _ _ (if _ ∨ 29 < (sS f E lb nb (some (p1 + lnM s, o))).1 then none else (bS f E _ (sS f E lb nb (some (p1 + lnM s, o))).2).2) = none
        rw [e3]
        show cS W mo _ _ (if _ then none else none) = none
        split <;> rfl
      | some q =>
        obtain ⟨t, p3⟩ := q
        have e3 := sS_some (o := o) h3
        show cS W mo (lnB s + bv f p1 (lnM s)) (dsB (sS f E lb nb (some (p1 + lnM s, o))).1 + _) (if _ ∨ 29 < (sS f E lb nb (some (p1 + lnM s, o))).1 then none else (bS f E _ (sS f E lb nb (some (p1 + lnM s, o))).2).2) = if 29 < t then none else if E < p3 + dsM t then none else cS W mo (lnB s + bv f p1 (lnM s)) (dsB t + bv f p3 (dsM t)) (some (p3 + dsM t, o))
        rw [e3]
        by_cases h4 : 29 < t
        · rw [if_pos h4, if_pos (Or.inr h4)]
          rfl
        · rw [if_neg h4, if_neg (by omega)]
          by_cases h5 : E < p3 + dsM t
          · rw [if_pos h5]
            have e5 : bS f E (dsM t) (some (p3, o)) = (0, none) := if_neg (by omega)
            rw [e5]
            rfl
          · rw [if_neg h5]
            have e5 : bS f E (dsM t) (some (p3, o)) = (bv f p3 (dsM t), some (p3 + dsM t, o)) := if_pos (by omega)
            rw [e5]
theorem smL_adv {f : Int → Int} {E : Int} {lb : Int → Int} {nb : Nat} {W mo s p1 p4 : Int} {o o4 : List Int} (hs : 257 ≤ s) (h : smL f E lb nb W mo s p1 o = some (p4, o4)) : p1 < p4 ∧ p4 ≤ E ∧ o.length < o4.length ∧ (o4.length : Int) ≤ mo := by
  unfold smL at h
  by_cases h1 : 285 < s
  · rw [if_pos h1] at h
    cases h
  · rw [if_neg h1] at h
    by_cases h2 : E < p1 + lnM s
    · rw [if_pos h2] at h
      cases h
    · rw [if_neg h2] at h
      cases h3 : sy f E lb nb (p1 + lnM s) with
      | none =>
        rw [h3] at h
        cases h
      | some q =>
        obtain ⟨t, p3⟩ := q
        rw [h3] at h
        have r := sy_rng h3
        have h' : (if 29 < t then none else if E < p3 + dsM t then none else cS W mo (lnB s + bv f p1 (lnM s)) (dsB t + bv f p3 (dsM t)) (some (p3 + dsM t, o))) = some (p4, o4) := h
        by_cases h4 : 29 < t
        · rw [if_pos h4] at h'
          cases h'
        · rw [if_neg h4] at h'
          by_cases h5 : E < p3 + dsM t
          · rw [if_pos h5] at h'
            cases h'
          · rw [if_neg h5] at h'
            have h6 : (if dsB t + bv f p3 (dsM t) ≤ o.length ∧ dsB t + bv f p3 (dsM t) ≤ W ∧ o.length + (lnB s + bv f p1 (lnM s)) ≤ mo then some (p3 + dsM t, cpB o (dsB t + bv f p3 (dsM t)).toNat (lnB s + bv f p1 (lnM s)).toNat) else none) = some (p4, o4) := h'
            by_cases h7 : dsB t + bv f p3 (dsM t) ≤ o.length ∧ dsB t + bv f p3 (dsM t) ≤ W ∧ o.length + (lnB s + bv f p1 (lnM s)) ≤ mo
            · rw [if_pos h7] at h6
              injection h6 with h8
              injection h8 with h9 h10
              have h11 := congrArg List.length h10
              rw [cpB_len] at h11
              have h12 := lnB_rng hs (by omega)
              have h13 := (bv_rng f p1 (lnM s)).1
              omega
            · rw [if_neg h7] at h6
              cases h6
section USYMS
variable {d nx zl : Nat} {K : Option TV → FH → Prop} {sh : Nat → Option Shp} {M0 M : FM} {sc mc nS nM : Nat} {H : FH}
theorem lengthMore_Y {s : Int} (h0 : 0 ≤ s) (h1 : s ≤ 300) (k : K (some (ti (lnM s))) H) : fm_Y (d + 1) 146 [.int (Int32.ofInt s)] H K := by
  refine m146 [ti s] ?_
  refine ⟨by omega, fun w => ?_, fun w => ?_⟩
  · have e : lnM s = 0 := if_pos (Or.inl w)
    rw [e] at k
    exact k
  · refine ⟨by omega, fun w2 => ?_, fun w2 => ?_⟩
    · refine ⟨by omega, ?_⟩
      have e : ((lnM s : Nat) : Int) = (s - 261) / 4 := by
        unfold lnM
        rw [if_neg (by omega)]
        omega
      rw [e] at k
      exact k
    · have e : lnM s = 0 := if_pos (Or.inr (by omega))
      rw [e] at k
      exact k
theorem lengthBase_Y {s : Int} (h0 : 0 ≤ s) (h1 : s ≤ 300) (k : K (some (ti (lnB s))) H) : fm_Y (d + 1) 145 [.int (Int32.ofInt s)] H K := by
  refine m145 [ti s] ?_
  unfold lnB at k
  refine ⟨by omega, fun w => ?_, fun w => ?_⟩
  · rw [if_neg (by omega)] at k
    refine ⟨by omega, fun w2 => ?_, fun w2 => ?_⟩
    · rw [if_neg (by omega)] at k
      refine ⟨by omega, ?_⟩
      refine ⟨by omega, ?_⟩
      refine ⟨by omega, ?_⟩
      exact k
    · rw [if_pos (by omega)] at k
      exact k
  · rw [if_pos (by omega)] at k
    exact k
theorem distanceMore_Y {t : Int} (h0 : 0 ≤ t) (h1 : t ≤ 300) (k : K (some (ti (dsM t))) H) : fm_Y (d + 1) 148 [.int (Int32.ofInt t)] H K := by
  refine m148 [ti t] ?_
  refine ⟨by omega, fun w => ?_, fun w => ?_⟩
  · have e : dsM t = 0 := if_pos (Or.inl w)
    rw [e] at k
    exact k
  · refine ⟨by omega, fun w2 => ?_, fun w2 => ?_⟩
    · refine ⟨by omega, ?_⟩
      have e : ((dsM t : Nat) : Int) = t / 2 - 1 := by
        unfold dsM
        rw [if_neg (by omega)]
        omega
      rw [e] at k
      exact k
    · have e : dsM t = 0 := if_pos (Or.inr (by omega))
      rw [e] at k
      exact k
theorem distanceBase_Y {t : Int} (h0 : 0 ≤ t) (h1 : t ≤ 300) (k : K (some (ti (dsB t))) H) : fm_Y (d + 1) 147 [.int (Int32.ofInt t)] H K := by
  refine m147 [ti t] ?_
  unfold dsB at k
  refine ⟨by omega, fun w => ?_, fun w => ?_⟩
  · rw [if_pos (Or.inl w)] at k
    exact k
  · refine ⟨by omega, fun w2 => ?_, fun w2 => ?_⟩
    · rw [if_neg (by omega)] at k
      refine ⟨by omega, ?_⟩
      refine ⟨by omega, ?_⟩
      refine ⟨by omega, ?_⟩
      exact k
    · rw [if_pos (Or.inr (by omega))] at k
      exact k
theorem cdV_to {M2 : FM} {c3 c4 n : Nat} {ls : Int → Int} (h : cdV M c3 c4 ls n) (h3 : M2 c3 = M c3) (h4 : M2 c4 = M c4) : cdV M2 c3 c4 ls n := by
  unfold cdV
  rw [h3, h4]
  exact h
/-- the end of a failed row of symbols -/
theorem tsX {ca cb : Nat} {q : Int} {y4 y5 y6 y7 : Option TV} (hq : -1 ≤ q ∧ q ≤ 200000) (hmc : mc ≠ 129) (hR : uR M0 M mc none) (k : ∀ M2 : FM, uR M0 M2 mc none → uk3 M M2 mc → K none (sh, M2, nx, zl)) : fm_X d kd142 10 [some (fx 129), some (gr ca), some (gr cb), some (ti q), y4, y5, y6, y7] [] (sh, M, nx, zl) K := by
  have hf : M 129 8 % 2 = 1 := hR.2
  refine s142_10 d K _ _ _ ?_
  have FAIL : K none (sh, um M 129 (ur (M 129) 8 1), nx, zl) := uX_fail3 (K2 := fun M2 => K none (sh, M2, nx, zl)) hmc hR.1 (fun M2 h g => k M2 h g)
  refine ⟨by omega, fun w => ⟨Or.inr rfl, FAIL⟩, fun w => ?_⟩
  exact ⟨by omega, fun w => ⟨Or.inr rfl, FAIL⟩, fun w => by omega⟩
theorem takeSymbols_Y {ca a3 a4 a5 nA na cb b3 b4 b5 nB nb : Nat} {la lb : Int → Int} {p0 : Int} {o0 : List Int} {G : Nat} (hC : uC sh M0 sc mc nS nM) (ha : cdS sh ca a3 a4 a5 nA) (hna : na ≤ nA) (hb : cdS sh cb b3 b4 b5 nB) (hnb : nb ≤ nB) (hnb2 : nb ≤ 32) (va : cdV M a3 a4 la na) (vb : cdV M b3 b4 lb nb) (nmc : a3 ≠ mc ∧ a4 ≠ mc ∧ b3 ≠ mc ∧ b4 ≠ mc) (hR : uR M0 M mc (some (p0, o0))) (hG : M0 129 2 - p0 < G) (k : ∀ M2 : FM, uR M0 M2 mc (smG (M0 sc) (M0 129 2) la na lb nb (M0 129 7) (M0 129 6 - M0 129 4) G p0 o0) → uk3 M M2 mc → K none (sh, M2, nx, zl)) : fm_Y (d + 2) 142 [.ref 129, .ref ca, .ref cb] (sh, M, nx, zl) K := by
  have hC0 := hC
  obtain ⟨⟨⟨u1, u2⟩, u3, u4⟩, ⟨u5, u6, u7, u8⟩, ⟨u9, u10⟩, ⟨u11, u12⟩, u13, u14⟩ := hC
  have hmc : mc ≠ 129 := by omega
  obtain ⟨-, -, -, -, hnA, ⟨na3, na4, -⟩⟩ := id ha
  obtain ⟨-, -, -, -, hnB, ⟨nb3, nb4, -⟩⟩ := id hb
  refine m142 [fx 129, gr ca, gr cb] ?_
  have L : ∀ (g : Nat) (p q : Int) (o : List Int) (M1 : FM) (y4 y5 y6 y7 : Option TV), M0 129 2 - p < g → M0 129 6 - M0 129 4 - o.length ≤ q → q ≤ 140000 → smG (M0 sc) (M0 129 2) la na lb nb (M0 129 7) (M0 129 6 - M0 129 4) G p0 o0 = smG (M0 sc) (M0 129 2) la na lb nb (M0 129 7) (M0 129 6 - M0 129 4) g p o → uR M0 M1 mc (some (p, o)) → uk3 M M1 mc → fm_X (d + 1) kd142 10 [some (fx 129), some (gr ca), some (gr cb), some (ti q), y4, y5, y6, y7] [] (sh, M1, nx, zl) K := by
    intro g
    induction g with
    | zero =>
      intro p q o M1 y4 y5 y6 y7 c1 c2 c3 c4 c5 c6
      have := c5.2.2.1
      omega
    | succ g ih =>
      intro p q o M1 y4 y5 y6 y7 c1 c2 c3 c4 c5 c6
      have hK1 := c5.1
      have c52 := c5.2.1
      have c53 := c5.2.2
      refine s142_10 (d + 1) K _ _ _ ?_
      refine ⟨by omega, fun w => by omega, fun w => ?_⟩
      refine ⟨by omega, fun w => by omega, fun w => ?_⟩
      have va1 : cdV M1 a3 a4 la na := cdV_to va (c6.1 a3 na3 nmc.1) (c6.1 a4 na4 nmc.2.1)
      have vb1 : cdV M1 b3 b4 lb nb := cdV_to vb (c6.1 b3 nb3 nmc.2.2.1) (c6.1 b4 nb4 nmc.2.2.2)
      refine symbol_Y hC0 ha hna va1 c5 (fun M2 t1 t2 => ?_)
      have c6b := uk3_t c6 (uk2_3 t2)
      cases hs : sy (M0 sc) (M0 129 2) la na p with
      | none =>
        rw [sS_none hs] at t1
        rw [sS_none hs]
        have ec : smG (M0 sc) (M0 129 2) la na lb nb (M0 129 7) (M0 129 6 - M0 129 4) (g + 1) p o = none := by
          unfold smG
          rw [hs]
        rw [c4, ec] at k
        refine ⟨by omega, fun w2 => ?_, fun w2 => by omega⟩
        refine ⟨by omega, fun w3 => by omega, fun w3 => ?_⟩
        refine putByte_Y hC0 t1 (fun M3 v1 v2 => ?_)
        exact tsX (by omega) hmc v1 (fun M4 x1 x2 => k M4 x1 (uk3_t (uk3_t c6b v2) x2))
      | some r =>
        obtain ⟨s, p1⟩ := r
        rw [sS_some hs] at t1
        rw [sS_some hs]
        have rs := sy_rng hs
        dsimp only at t1 ⊢
        have ec : smG (M0 sc) (M0 129 2) la na lb nb (M0 129 7) (M0 129 6 - M0 129 4) (g + 1) p o = if s = 256 then some (p1, o) else if s < 256 then (if (o.length : Int) < M0 129 6 - M0 129 4 then smG (M0 sc) (M0 129 2) la na lb nb (M0 129 7) (M0 129 6 - M0 129 4) g p1 (o ++ [s]) else none) else match smL (M0 sc) (M0 129 2) lb nb (M0 129 7) (M0 129 6 - M0 129 4) s p1 o with
            | none => none
            | some (p4, o4) => smG (M0 sc) (M0 129 2) la na lb nb (M0 129 7) (M0 129 6 - M0 129 4) g p4 o4 := by
          show (match sy (M0 sc) (M0 129 2) la na p with
            | none => none
            | some (s, p1) => _) = _
          rw [hs]
        rw [ec] at c4
        refine ⟨by omega, fun w2 => ?_, fun w2 => ?_⟩
        · rw [if_neg w2] at c4
          refine ⟨by omega, fun w3 => ?_, fun w3 => ?_⟩
          · rw [if_neg (by omega)] at c4
            refine lengthBase_Y (by omega) (by omega) ?_
            refine lengthMore_Y (by omega) (by omega) ?_
            have hlm := lnM_le s
            refine bits_Y hC0 t1 (by omega) (fun M3 v1 v2 => ?_)
            have c7 := uk3_t c6b (uk2_3 v2)
            have vb3 : cdV M3 b3 b4 lb nb := cdV_to vb (c7.1 b3 nb3 nmc.2.2.1) (c7.1 b4 nb4 nmc.2.2.2)
            have e2 := smC_eq (M0 sc) (M0 129 2) lb nb (M0 129 7) (M0 129 6 - M0 129 4) s p1 o
            unfold smC at e2
            dsimp only at e2
            have rb : 0 ≤ (bS (M0 sc) (M0 129 2) (lnM s) (some (p1, o))).1 ∧ (bS (M0 sc) (M0 129 2) (lnM s) (some (p1, o))).1 ≤ 32 := by
              show 0 ≤ (if p1 + (lnM s : Int) ≤ M0 129 2 then (bv (M0 sc) p1 (lnM s), some (p1 + (lnM s : Int), o)) else (0, none)).1 ∧ (if p1 + (lnM s : Int) ≤ M0 129 2 then (bv (M0 sc) p1 (lnM s), some (p1 + (lnM s : Int), o)) else (0, none)).1 ≤ 32
              split
              · have z := bv_rng (M0 sc) p1 (lnM s)
                have z2 := p2_mono (lnM s) 5 hlm
                have z3 : (2 : Int) ^ 5 = 32 := by decide
                show 0 ≤ bv (M0 sc) p1 (lnM s) ∧ bv (M0 sc) p1 (lnM s) ≤ 32
                omega
              · show (0 : Int) ≤ 0 ∧ (0 : Int) ≤ 32
                omega
            generalize bS (M0 sc) (M0 129 2) (lnM s) (some (p1, o)) = r2 at v1 e2 rb ⊢
            refine symbol_Y hC0 hb hnb vb3 v1 (fun M4 x1 x2 => ?_)
            have c8 := uk3_t c7 (uk2_3 x2)
            have rt : 0 ≤ (sS (M0 sc) (M0 129 2) lb nb r2.2).1 ∧ (sS (M0 sc) (M0 129 2) lb nb r2.2).1 < 32 := by
              cases r2.2 with
              | none =>
                show (0 : Int) ≤ 0 ∧ (0 : Int) < 32
                omega
              | some q2 =>
                obtain ⟨p2, o2⟩ := q2
                cases h3 : sy (M0 sc) (M0 129 2) lb nb p2 with
                | none =>
                  rw [sS_none h3]
                  show (0 : Int) ≤ 0 ∧ (0 : Int) < 32
                  omega
                | some q3 =>
                  obtain ⟨t, p3⟩ := q3
                  rw [sS_some h3]
                  have z := sy_rng h3
                  show 0 ≤ t ∧ t < 32
                  omega
            generalize sS (M0 sc) (M0 129 2) lb nb r2.2 = r3 at x1 e2 rt ⊢
            refine distanceBase_Y (by omega) (by omega) ?_
            refine distanceMore_Y (by omega) (by omega) ?_
            have hdm := dsM_le r3.1
            refine bits_Y hC0 x1 (by omega) (fun M5 y1 y2 => ?_)
            have c9 := uk3_t c8 (uk2_3 y2)
            have r4b : 0 ≤ (bS (M0 sc) (M0 129 2) (dsM r3.1) r3.2).1 ∧ (bS (M0 sc) (M0 129 2) (dsM r3.1) r3.2).1 ≤ 8192 := by
              cases r3.2 with
              | none =>
                show (0 : Int) ≤ 0 ∧ (0 : Int) ≤ 8192
                omega
              | some q2 =>
                obtain ⟨p2, o2⟩ := q2
                show 0 ≤ (if p2 + (dsM r3.1 : Int) ≤ M0 129 2 then (bv (M0 sc) p2 (dsM r3.1), some (p2 + (dsM r3.1 : Int), o2)) else (0, none)).1 ∧ (if p2 + (dsM r3.1 : Int) ≤ M0 129 2 then (bv (M0 sc) p2 (dsM r3.1), some (p2 + (dsM r3.1 : Int), o2)) else (0, none)).1 ≤ 8192
                split
                · have z := bv_rng (M0 sc) p2 (dsM r3.1)
                  have z2 := p2_mono (dsM r3.1) 13 hdm
                  have z3 : (2 : Int) ^ 13 = 8192 := by decide
                  show 0 ≤ bv (M0 sc) p2 (dsM r3.1) ∧ bv (M0 sc) p2 (dsM r3.1) ≤ 8192
                  omega
                · show (0 : Int) ≤ 0 ∧ (0 : Int) ≤ 8192
                  omega
            generalize bS (M0 sc) (M0 129 2) (dsM r3.1) r3.2 = r4 at y1 e2 r4b ⊢
            have lb1 := lnB_rng (s := s) (by omega) (by omega)
            have db1 := dsB_rng (t := r3.1) (by omega) (by omega)
            -- behind the mark
            have GO : ∀ M6 : FM, uR M0 M6 mc (if 285 < s ∨ 29 < r3.1 then none else r4.2) → uk3 M M6 mc → fm_Y (d + 1) 149 [.ref 129, .int (Int32.ofInt (lnB s + r2.1)), .int (Int32.ofInt (dsB r3.1 + r4.1))] (sh, M6, nx, zl) (fun w h2 => b142_132 (d + 1) (fW (d + 1) kd142 K) K [some (fx 129), some (gr ca), some (gr cb), some (ti q), some (ti s), some (ti (lnB s + r2.1)), some (ti r3.1), some (ti (dsB r3.1 + r4.1))] (w.toList ++ []) h2) := by
              intro M6 z1 z2
              refine copyBack_Y hC0 z1 (by omega) (by omega) (fun M7 a1 a2 => ?_)
              have z3 := uk3_t z2 a2
              have e3 : cS (M0 129 7) (M0 129 6 - M0 129 4) (lnB s + r2.1) (dsB r3.1 + r4.1) (if 285 < s ∨ 29 < r3.1 then none else r4.2) = smL (M0 sc) (M0 129 2) lb nb (M0 129 7) (M0 129 6 - M0 129 4) s p1 o := e2
              rw [e3] at a1
              cases h7 : smL (M0 sc) (M0 129 2) lb nb (M0 129 7) (M0 129 6 - M0 129 4) s p1 o with
              | none =>
                rw [h7] at c4 a1
                have c4' : smG (M0 sc) (M0 129 2) la na lb nb (M0 129 7) (M0 129 6 - M0 129 4) G p0 o0 = none := c4
                rw [c4'] at k
                exact tsX (by omega) hmc a1 (fun M8 x1 x2 => k M8 x1 (uk3_t z3 x2))
              | some r5 =>
                obtain ⟨p4, o4⟩ := r5
                rw [h7] at c4 a1
                have c4' : smG (M0 sc) (M0 129 2) la na lb nb (M0 129 7) (M0 129 6 - M0 129 4) G p0 o0 = smG (M0 sc) (M0 129 2) la na lb nb (M0 129 7) (M0 129 6 - M0 129 4) g p4 o4 := c4
                have ad := smL_adv (by omega) h7
                exact ih p4 (q + -1) o4 M7 _ _ _ _ (by omega) (by omega) (by omega) c4' a1 z3
            have FL : M5 129 8 % 2 = 0 ∨ M5 129 8 % 2 = 1 := by omega
            have MK1 : ∀ z : Int, z = 1 → uR M0 (um M5 129 (ur (M5 129) 8 z)) mc none ∧ uk3 M (um M5 129 (ur (M5 129) 8 z)) mc := by
              intro z hz
              rw [hz]
              exact uX_fail3 (K2 := fun M6 => uR M0 M6 mc none ∧ uk3 M M6 mc) hmc (uR_K y1) (fun M6 h g => ⟨h, uk3_t c9 g⟩)
            have MK0 : M5 129 8 % 2 = 0 → uR M0 (um M5 129 (ur (M5 129) 8 0)) mc r4.2 ∧ uk3 M (um M5 129 (ur (M5 129) 8 0)) mc := by
              intro hz
              have g : uk2 M5 (um M5 129 (ur (M5 129) 8 0)) := ⟨fun c hc => um_ne hc, fun i _ h8 => by rw [um_at, ur_ne h8]⟩
              refine ⟨?_, uk3_t c9 (uk2_3 g)⟩
              revert y1
              cases r4.2 with
              | none =>
                intro y1
                have := y1.2
                omega
              | some q5 =>
                obtain ⟨p5, o5⟩ := q5
                intro y1
                obtain ⟨j1, ⟨j2, j3, j4, j5⟩, j6, j7⟩ := y1
                exact ⟨uK_2 j1 hmc g, ⟨by rw [um_at, ur_ne (by omega)]; exact j2, by rw [um_at, ur_at]; rfl, by rw [g.2 5 (by omega) (by omega)]; exact j4, by rw [g.1 mc hmc]; exact j5⟩, j6, j7⟩
            -- with the mark 1, and 0
            have A1 : (285 < s ∨ 29 < r3.1) → b142_115 (d + 1) (fW (d + 1) kd142 K) K [some (fx 129), some (gr ca), some (gr cb), some (ti q), some (ti s), some (ti (lnB s + r2.1)), some (ti r3.1), some (ti (dsB r3.1 + r4.1))] [ti (M5 129 8 % 2), fx 129] (sh, M5, nx, zl) := by
              intro hbad
              refine ⟨1, by rcases FL with e | e <;> rw [e] <;> decide, ?_⟩
              refine ⟨Or.inr rfl, ?_⟩
              have z := MK1 1 rfl
              exact GO _ (by rw [if_pos hbad]; exact z.1) z.2
            refine ⟨by omega, fun w5 => A1 (Or.inl w5), fun w5 => ?_⟩
            refine ⟨by omega, fun w6 => ?_, fun w6 => A1 (Or.inr (by omega))⟩
            rcases FL with e | e
            · refine ⟨0, by rw [e]; decide, ?_⟩
              refine ⟨Or.inl rfl, ?_⟩
              have z := MK0 e
              exact GO _ (by rw [if_neg (by omega)]; exact z.1) z.2
            · refine ⟨1, by rw [e]; decide, ?_⟩
              refine ⟨Or.inr rfl, ?_⟩
              have z := MK1 1 rfl
              have er : r4.2 = none := by
                revert y1
                cases r4.2 with
                | none => intro _; rfl
                | some q5 =>
                  obtain ⟨p5, o5⟩ := q5
                  intro y1
                  have := y1.2.1.2.1
                  omega
              exact GO _ (by rw [if_neg (by omega), er]; exact z.1) z.2
          · rw [if_pos (by omega)] at c4
            refine putByte_Y hC0 t1 (fun M3 v1 v2 => ?_)
            by_cases hlt : (o.length : Int) < M0 129 6 - M0 129 4
            · rw [if_pos hlt] at c4
              have es : pS (M0 129 6 - M0 129 4) s (some (p1, o)) = some (p1, o ++ [s]) := by
                have z : pS (M0 129 6 - M0 129 4) s (some (p1, o)) = some (p1, o ++ [s % 256]) := if_pos hlt
                rw [z, show s % 256 = s by omega]
              rw [es] at v1
              exact ih p1 (q + -1) (o ++ [s]) M3 _ _ _ _ (by omega) (by rw [List.length_append]; simp only [List.length_cons, List.length_nil]; omega) (by omega) c4 v1 (uk3_t c6b v2)
            · rw [if_neg hlt] at c4
              have es : pS (M0 129 6 - M0 129 4) s (some (p1, o)) = none := if_neg hlt
              rw [es] at v1
              rw [c4] at k
              exact tsX (by omega) hmc v1 (fun M4 x1 x2 => k M4 x1 (uk3_t (uk3_t c6b v2) x2))
        · rw [if_pos w2] at c4
          rw [c4] at k
          exact k M2 t1 c6b
  have hK := hR.1
  have e6 : M 129 6 = M0 129 6 := hK.1 6 (by omega) (by omega) (by omega) (by omega) (by omega)
  have r5 := hR.2.1.2.2.1
  have r7 := hR.2.2.2
  exact L G p0 (M 129 6 - M 129 5) o0 M none none none none hG (by omega) (by omega) rfl hR (uk3_r M mc)
end USYMS
