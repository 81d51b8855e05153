/-! UNPACKING, the reference: a row of symbols, whole -/
section VSYMS2
variable {d nx zl : Nat} {K : Option TV → FH → Prop} {sh : Nat → Option Shp} {M0 M : FM} {sc tc nS nT : Nat} {na nb : Nat} {la lb : Int → Int} {W : Int}
theorem readSymbolX_Y {tr : Nat} (hR : vR M0 M tc none) (k : K (some (ti 0)) (sh, M, nx, zl)) : fm_Y (d + 2) 338 [.ref 168, .ref tr] (sh, M, nx, zl) K := by
  have hf := hR.2.1
  refine m338 [fx 168, gr tr] ?_
  refine s338_2 (d + 1) K _ _ _ ?_
  exact ⟨by omega, fun w => k, fun w => by omega⟩
theorem readSymbolsX_Y (hR : vR M0 M tc none) (k : K none (sh, M, nx, zl)) : fm_Y (d + 3) 337 [.ref 168, .int (Int32.ofInt W)] (sh, M, nx, zl) K := by
  have hf := hR.2.1
  refine m337 [fx 168, ti W] ?_
  refine readSymbolX_Y hR ?_
  refine s337_9 (d + 2) K _ _ _ ?_
  refine ⟨by omega, fun w => by omega, fun w => ?_⟩
  exact ⟨by omega, fun w => k, fun w => by omega⟩
theorem readSymbols_Y {p0 : Int} {o0 : List Int} {G : Nat} (hC : vC sh M0 sc tc nS nT) (hna : na ≤ 288) (hnb : nb ≤ 32) (hv : trV (M 205) la na 15 0 0 0 0) (hv2 : trV (M 207) lb nb 15 0 0 0 0) (hW : 0 ≤ W ∧ W ≤ 32768) (hR : vR M0 M tc (some (p0, o0))) (hG : vE M0 - p0 < G) (k : ∀ M2 : FM, vR M0 M2 tc (smG (M0 sc) (vE M0) la na lb nb W (M0 168 57) G p0 o0) → wk3 M M2 tc → K none (sh, M2, nx, zl)) : fm_Y (d + 3) 337 [.ref 168, .int (Int32.ofInt W)] (sh, M, nx, zl) K := by
  have hC0 := hC
  obtain ⟨⟨⟨u1, u2⟩, u3, u4⟩, ⟨u5, ⟨u6, u6b⟩, ⟨u7, u7b⟩, u8⟩, ⟨u9, u10⟩, ⟨u11, u12, u12b, u12c⟩, u13⟩ := hC
  have t205 : tc ≠ 205 := by omega
  have t207 : tc ≠ 207 := by omega
  refine m337 [fx 168, ti W] ?_
  have TRV : ∀ M1 : FM, wk3 M M1 tc → trV (M1 205) la na 15 0 0 0 0 ∧ trV (M1 207) lb nb 15 0 0 0 0 := by
    intro M1 h
    rw [h.1 205 (by decide) (fun e => t205 e.symm), h.1 207 (by decide) (fun e => t207 e.symm)]
    exact ⟨hv, hv2⟩
  have L : ∀ (g : Nat) (p : Int) (o : List Int) (M1 : FM) (y3 y4 y5 y6 : Option TV), vE M0 - p < g + 1 → smG (M0 sc) (vE M0) la na lb nb W (M0 168 57) G p0 o0 = smG (M0 sc) (vE M0) la na lb nb W (M0 168 57) (g + 1) p o → (o.length : Int) ≤ M0 168 57 → vR M0 M1 tc (sS (M0 sc) (vE M0) la na (some (p, o))).2 → wk3 M M1 tc → fm_X (d + 2) kd337 9 [some (fx 168), some (ti W), some (ti (sS (M0 sc) (vE M0) la na (some (p, o))).1), y3, y4, y5, y6] [] (sh, M1, nx, zl) K := by
    intro g
    induction g with
    | zero =>
      intro p o M1 y3 y4 y5 y6 c1 c2 c3 c4 c5
      cases hs : sy (M0 sc) (vE M0) la na p with
      | none =>
        have ec : smG (M0 sc) (vE M0) la na lb nb W (M0 168 57) (0 + 1) p o = none := by
          unfold smG
          rw [hs]
        rw [c2, ec] at k
        rw [sS_none hs] at c4 ⊢
        have c4' : vR M0 M1 tc none := c4
        have hf := c4'.2.1
        refine s337_9 (d + 2) K _ _ _ ?_
        refine ⟨by omega, fun w => by omega, fun w => ?_⟩
        exact ⟨by omega, fun w => k M1 c4' c5, fun w => by omega⟩
      | some r =>
        obtain ⟨s, p1⟩ := r
        have := sy_rng hs
        omega
    | succ g ih =>
      intro p o M1 y3 y4 y5 y6 c1 c2 c3 c4 c5
      obtain ⟨tv1, tv2⟩ := TRV M1 c5
      cases hs : sy (M0 sc) (vE M0) la na p with
      | none =>
        have ec : smG (M0 sc) (vE M0) la na lb nb W (M0 168 57) (g + 1 + 1) p o = none := by
          unfold smG
          rw [hs]
        rw [c2, ec] at k
        rw [sS_none hs] at c4 ⊢
        have c4' : vR M0 M1 tc none := c4
        have hf := c4'.2.1
        refine s337_9 (d + 2) K _ _ _ ?_
        refine ⟨by omega, fun w => by omega, fun w => ?_⟩
        exact ⟨by omega, fun w => k M1 c4' c5, fun w => by omega⟩
      | some r =>
        obtain ⟨s, p1⟩ := r
        have rs := sy_rng hs
        rw [sS_some hs] at c4 ⊢
        have c4' : vR M0 M1 tc (some (p1, o)) := c4
        have hf := c4'.2.1.2.1
        have h56 := c4'.2.1.2.2.1
        dsimp only
        have ec : smG (M0 sc) (vE M0) la na lb nb W (M0 168 57) (g + 1 + 1) p o = if s = 256 then some (p1, o) else if s < 256 then (if (o.length : Int) < M0 168 57 then smG (M0 sc) (vE M0) la na lb nb W (M0 168 57) (g + 1) p1 (o ++ [s]) else none) else match smL (M0 sc) (vE M0) lb nb W (M0 168 57) s p1 o with
            | none => none
            | some (p4, o4) => smG (M0 sc) (vE M0) la na lb nb W (M0 168 57) (g + 1) p4 o4 := by
          show (match sy (M0 sc) (vE M0) la na p with
            | none => none
            | some (s, p1) => _) = _
          rw [hs]
          rfl
        rw [ec] at c2
        refine s337_9 (d + 2) K _ _ _ ?_
        refine ⟨by omega, fun w => ?_, fun w => ?_⟩
        · rw [if_pos w] at c2
          rw [c2] at k
          exact k M1 c4' c5
        · rw [if_neg w] at c2
          refine ⟨by omega, fun w2 => by omega, fun w2 => ?_⟩
          refine ⟨by omega, fun w3 => ?_, fun w3 => ?_⟩
          · rw [if_neg (by omega)] at c2
            -- where something gets wrong
            have XK : smL (M0 sc) (vE M0) lb nb W (M0 168 57) s p1 o = none → ∀ M2 : FM, wk3 M M2 tc → ∀ M3 : FM, vR M0 M3 tc none → wk3 M2 M3 tc → K none (sh, M3, nx, zl) := by
              intro hz M2 x1 M3 x2 x3
              rw [hz] at c2
              have c2' : smG (M0 sc) (vE M0) la na lb nb W (M0 168 57) G p0 o0 = none := c2
              rw [c2'] at k
              exact k M3 x2 (wk3_t x1 x3)
            refine ⟨by omega, fun w4 => ?_, fun w4 => ?_⟩
            · refine ⟨Or.inl rfl, ?_⟩
              obtain ⟨z1, z2⟩ := vW0 u7 c4' hf
              obtain ⟨R, gR⟩ : ∃ R : FM, R = um M1 168 (ur (M1 168) 54 0) := ⟨_, rfl⟩
              rw [← gR] at z1 z2
              have z3 := z1.2.1.2.1
              have cR := wk3_t c5 (wk2_3 (tc := tc) z2)
              have TL : o_al 0 (o_get 12 54 54 (o_if .eq (o_il 2 (o_calls (d + 2) 279 1 (o_al 0 (o_il 2 (o_calls (d + 2) 280 1 (o_callv (d + 2) 330 1 12 (o_iadd (b337_78 (d + 2) (fW (d + 2) kd337 K) K)))))))) (o_ic 0 (b337_78 (d + 2) (fW (d + 2) kd337 K) K)))) [some (fx 168), some (ti W), some (ti s), y3, y4, y5, y6] [] (sh, R, nx, zl) := by
                refine ⟨by omega, fun _ => ?_, fun z => absurd z3 z⟩
                refine mlengthBase_Y (by omega) (by omega) ?_
                refine mlengthBits_Y (by omega) (by omega) ?_
                have hlm := lnM_le s
                refine readNumber_Y hC0 z1 (by omega) (fun v M3 t1 t2 t3 t4 => ?_)
                have lb1 := lnB_rng (s := s) (by omega) (by omega)
                have v5 := p2_mono (lnM s) 5 hlm
                have e32 : (2 : Int) ^ 5 = 32 := by decide
                have c6 := wk3_t cR (wk2_3 (tc := tc) t2)
                obtain ⟨tv3, tv4⟩ := TRV M3 c6
                by_cases hb1 : vE M0 < p1 + lnM s
                · have eb : bS (M0 sc) (vE M0) (lnM s) (some (p1, o)) = (0, none) := bS_neg (by omega)
                  rw [eb] at t1
                  have hz : smL (M0 sc) (vE M0) lb nb W (M0 168 57) s p1 o = none := by
                    unfold smL
                    rw [if_neg (by omega), if_pos hb1]
                  exact vX78 hC0 (by omega) (by omega) tv3 tv4 (by omega) t1 (XK hz M3 c6)
                · have eb : bS (M0 sc) (vE M0) (lnM s) (some (p1, o)) = (bv (M0 sc) p1 (lnM s), some (p1 + lnM s, o)) := bS_pos (by omega)
                  rw [eb] at t1 t3
                  have ev : v = bv (M0 sc) p1 (lnM s) := t3 (fun z => by cases z)
                  dsimp only at t1
                  refine readSymbol_Y hC0 (tr206 sh) (by omega) tv4 t1 (fun M4 x1 x2 => ?_)
                  have c7 := wk3_t c6 (wk2_3 (tc := tc) x2)
                  obtain ⟨tv5, tv6⟩ := TRV M4 c7
                  cases h3 : sy (M0 sc) (vE M0) lb nb (p1 + lnM s) with
                  | none =>
                    rw [sS_none h3] at x1 ⊢
                    have x1' : vR M0 M4 tc none := x1
                    have hf4 := x1'.2.1
                    have hz : smL (M0 sc) (vE M0) lb nb W (M0 168 57) s p1 o = none := by
                      unfold smL
                      rw [if_neg (by omega), if_neg hb1, h3]
                    refine ⟨by omega, fun w5 => ?_, fun w5 => by omega⟩
                    exact vX104 hC0 (by omega) tv5 (by omega) x1' (XK hz M4 c7)
                  | some q3 =>
                    obtain ⟨t, p3⟩ := q3
                    have r3 := sy_rng h3
                    rw [sS_some h3] at x1 ⊢
                    have x1' : vR M0 M4 tc (some (p3, o)) := x1
                    have hf4 := x1'.2.1.2.1
                    dsimp only
                    refine ⟨by omega, fun w5 => by omega, fun w5 => ?_⟩
                    have eL : smL (M0 sc) (vE M0) lb nb W (M0 168 57) s p1 o = if 29 < t then none else if vE M0 < p3 + dsM t then none else cS W (M0 168 57) (lnB s + bv (M0 sc) p1 (lnM s)) (dsB t + bv (M0 sc) p3 (dsM t)) (some (p3 + dsM t, o)) := by
                      unfold smL
                      rw [if_neg (by omega), if_neg hb1, h3]
                    refine ⟨by omega, fun w6 => ?_, fun w6 => ?_⟩
                    · rw [if_neg (by omega)] at eL
                      refine ⟨Or.inl rfl, ?_⟩
                      obtain ⟨q1, q2⟩ := vW0 u7 x1' hf4
                      obtain ⟨R2, gR2⟩ : ∃ R2 : FM, R2 = um M4 168 (ur (M4 168) 54 0) := ⟨_, rfl⟩
                      rw [← gR2] at q1 q2
                      have q3 := q1.2.1.2.1
                      have c8 := wk3_t c7 (wk2_3 (tc := tc) q2)
                      have TL2 : o_al 0 (o_get 12 54 54 (o_if .eq (o_il 4 (o_calls (d + 2) 282 1 (o_al 0 (o_il 4 (o_calls (d + 2) 283 1 (o_callv (d + 2) 330 1 12 (o_iadd (b337_138 (d + 2) (fW (d + 2) kd337 K) K)))))))) (o_ic 0 (b337_138 (d + 2) (fW (d + 2) kd337 K) K)))) [some (fx 168), some (ti W), some (ti s), some (ti (lnB s + v)), some (ti t), y5, y6] [] (sh, R2, nx, zl) := by
                        refine ⟨by omega, fun _ => ?_, fun z => absurd q3 z⟩
                        refine mdistanceBase_Y (by omega) (by omega) ?_
                        refine mdistanceBits_Y (by omega) (by omega) ?_
                        have hdm := dsM_le t
                        refine readNumber_Y hC0 q1 (by omega) (fun v2 M5 n1 n2 n3 n4 => ?_)
                        have db1 := dsB_rng (t := t) (by omega) (by omega)
                        have v13 := p2_mono (dsM t) 13 hdm
                        have e8192 : (2 : Int) ^ 13 = 8192 := by decide
                        have c9 := wk3_t c8 (wk2_3 (tc := tc) n2)
                        obtain ⟨tv7, tv8⟩ := TRV M5 c9
                        by_cases hb2 : vE M0 < p3 + dsM t
                        · rw [if_pos hb2] at eL
                          have eb2 : bS (M0 sc) (vE M0) (dsM t) (some (p3, o)) = (0, none) := bS_neg (by omega)
                          rw [eb2] at n1
                          exact vX138 hC0 (by omega) tv7 (by omega) n1 (XK eL M5 c9)
                        · rw [if_neg hb2] at eL
                          have eb2 : bS (M0 sc) (vE M0) (dsM t) (some (p3, o)) = (bv (M0 sc) p3 (dsM t), some (p3 + dsM t, o)) := bS_pos (by omega)
                          rw [eb2] at n1 n3
                          have ev2 : v2 = bv (M0 sc) p3 (dsM t) := n3 (fun z => by cases z)
                          rw [← ev, ← ev2] at eL
                          dsimp only at n1
                          have hf5 := n1.2.1.2.1
                          have h565 := n1.2.1.2.2.1
                          have eC : cS W (M0 168 57) (lnB s + v) (dsB t + v2) (some (p3 + dsM t, o)) = if dsB t + v2 ≤ o.length ∧ dsB t + v2 ≤ W ∧ o.length + (lnB s + v) ≤ M0 168 57 then some (p3 + dsM t, cpB o (dsB t + v2).toNat (lnB s + v).toNat) else none := rfl
                          rw [eC] at eL
                          have X163 : ¬ (dsB t + v2 ≤ o.length ∧ dsB t + v2 ≤ W) → b337_163 (d + 2) (fW (d + 2) kd337 K) K [some (fx 168), some (ti W), some (ti s), some (ti (lnB s + v)), some (ti t), some (ti (dsB t + v2)), y6] [fx 168] (sh, M5, nx, zl) := by
                            intro hbad
                            rw [if_neg (fun z => hbad ⟨z.1, z.2.1⟩)] at eL
                            refine ⟨Or.inr rfl, ?_⟩
                            obtain ⟨j1, j2⟩ := vW1 u7 n1
                            exact vX174 (la := la) (na := na) hC0 (by omega) (by rw [um_ne (by decide)]; exact tv7) (by omega) j1 (fun M6 i1 i2 => XK eL _ (wk3_t c9 (wk2_3 (tc := tc) j2)) M6 i1 i2)
                          refine ⟨by omega, fun w7 => by omega, fun w7 => ?_⟩
                          refine ⟨by omega, fun w8 => X163 (by omega), fun w8 => ?_⟩
                          refine ⟨by omega, fun w9 => ?_, fun w9 => X163 (by omega)⟩
                          refine ⟨Or.inl rfl, ?_⟩
                          obtain ⟨j1, j2⟩ := vW0 u7 n1 hf5
                          have c10 := wk3_t c9 (wk2_3 (tc := tc) j2)
                          obtain ⟨tv9, tv10⟩ := TRV _ c10
                          refine v174 (la := la) (na := na) (p4 := p3 + dsM t) (o0 := o) hC0 (by omega) (by omega) (by omega) (fun M6 y6 i0 i1 i2 => ?_) (fun M6 i0 i1 i2 => ?_) tv9 t205 (lnB s + v).toNat 0 o _ (by omega) (by omega) (by omega) (by omega) rfl j1 (wk3_r _ tc)
                          · rw [if_pos ⟨by omega, by omega, i0⟩] at eL
                            rw [eL] at c2
                            have c2' : smG (M0 sc) (vE M0) la na lb nb W (M0 168 57) G p0 o0 = smG (M0 sc) (vE M0) la na lb nb W (M0 168 57) (g + 1) (p3 + dsM t) (cpB o (dsB t + v2).toNat (lnB s + v).toNat) := c2
                            have c11 := wk3_t c10 i2
                            obtain ⟨tv11, tv12⟩ := TRV M6 c11
                            refine readSymbol_Y hC0 (tr204 sh) (by omega) tv11 i1 (fun M7 k1 k2 => ?_)
                            refine ih (p3 + dsM t) _ M7 _ _ _ _ (by omega) c2' ?_ k1 (wk3_t c11 (wk2_3 (tc := tc) k2))
                            exact i1.2.2.2
                          · rw [if_neg (fun z => i0 z.2.2)] at eL
                            exact XK eL _ c10 M6 i1 i2
                      rw [gR2] at TL2
                      exact TL2
                    · rw [if_pos (by omega)] at eL
                      exact vX104 hC0 (by omega) tv5 (by omega) x1' (XK eL M4 c7)
              rw [gR] at TL
              exact TL
            · have hz : smL (M0 sc) (vE M0) lb nb W (M0 168 57) s p1 o = none := by
                unfold smL
                rw [if_pos (by omega)]
              refine ⟨Or.inr rfl, ?_⟩
              obtain ⟨z1, z2⟩ := vW1 u7 c4'
              have hf3 := z1.2.1
              refine ⟨by omega, fun w5 => by omega, fun w5 => ?_⟩
              have cR := wk3_t c5 (wk2_3 (tc := tc) z2)
              obtain ⟨tv3, tv4⟩ := TRV _ cR
              exact vX78 hC0 (by omega) (by omega) tv3 tv4 (by omega) z1 (XK hz _ cR)
          · rw [if_pos (by omega)] at c2
            refine makeByte_Y hC0 c4' (fun M3 t1 t2 => ?_)
            have c6 := wk3_t c5 t2
            obtain ⟨tv3, tv4⟩ := TRV M3 c6
            by_cases hlt : (o.length : Int) < M0 168 57
            · rw [if_pos hlt] at c2
              have es : pS (M0 168 57) s (some (p1, o)) = some (p1, o ++ [s]) := by
                have z : pS (M0 168 57) s (some (p1, o)) = some (p1, o ++ [s % 256]) := if_pos hlt
                rw [z, show s % 256 = s by omega]
              rw [es] at t1
              refine readSymbol_Y hC0 (tr204 sh) (by omega) tv3 t1 (fun M7 k1 k2 => ?_)
              exact ih p1 _ M7 _ _ _ _ (by omega) c2 t1.2.2.2 k1 (wk3_t c6 (wk2_3 (tc := tc) k2))
            · rw [if_neg hlt] at c2
              have es : pS (M0 168 57) s (some (p1, o)) = none := if_neg hlt
              rw [es] at t1
              rw [c2] at k
              exact vX209 hC0 (by omega) tv3 t1 (fun M4 x1 x2 => k M4 x1 (wk3_t c6 x2))
  obtain ⟨G', hG'⟩ : ∃ G' : Nat, G = G' + 1 := by
    refine ⟨G - 1, ?_⟩
    have h1 := hR.2.1.1
    have h2 := hR.2.2.1
    unfold vE at hG
    omega
  refine readSymbol_Y hC0 (tr204 sh) (by omega) hv hR (fun M2 t1 t2 => ?_)
  refine L G' p0 o0 M2 _ _ _ _ (by omega) (by rw [hG']) hR.2.2.2 t1 (wk2_3 t2)
end VSYMS2
