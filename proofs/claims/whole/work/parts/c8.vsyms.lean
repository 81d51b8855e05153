/-! UNPACKING, the reference: a row of symbols -/
section VSYMS
variable {d nx zl : Nat} {K : Option TV → FH → Prop} {sh : Nat → Option Shp} {M0 M : FM} {sc tc nS nT : Nat} {H : FH}
theorem mlengthBits_Y {s : Int} (h0 : 257 ≤ s) (h1 : s ≤ 285) (k : K (some (ti (lnM s))) H) : fm_Y (d + 1) 280 [.int (Int32.ofInt s)] H K := by
  refine m280 [ti s] ?_
  refine ⟨by omega, fun w => ?_, fun w => ?_⟩
  · have e : lnM s = 0 := if_pos (Or.inl w)
    rw [e] at k
    exact k
  · refine ⟨by omega, fun w2 => ?_, fun w2 => ?_⟩
    · refine ⟨by omega, ?_⟩
      have e : ((lnM s : Nat) : Int) = (s - 261) / 4 := by
        unfold lnM
        rw [if_neg (by omega)]
        omega
      rw [e] at k
      exact k
    · have e : lnM s = 0 := if_pos (Or.inr (by omega))
      rw [e] at k
      exact k
theorem mlengthBase_Y {s : Int} (h0 : 257 ≤ s) (h1 : s ≤ 285) (k : K (some (ti (lnB s))) H) : fm_Y (d + 2) 279 [.int (Int32.ofInt s)] H K := by
  refine m279 [ti s] ?_
  unfold lnB at k
  refine ⟨by omega, fun w => ?_, fun w => ?_⟩
  · refine ⟨by omega, fun w2 => ?_, fun w2 => ?_⟩
    · rw [if_neg (by omega), if_neg (by omega)] at k
      refine ⟨by omega, ?_⟩
      refine mlengthBits_Y h0 h1 ?_
      have e : lnM s = ((s - 261) / 4).toNat := if_neg (by omega)
      refine ⟨by rw [e]; omega, ?_⟩
      rw [e, Int.toNat_natCast]
      exact k
    · rw [if_pos (by omega)] at k
      exact k
  · rw [if_neg (by omega), if_pos (by omega)] at k
    exact k
theorem mdistanceBits_Y {t : Int} (h0 : 0 ≤ t) (h1 : t ≤ 29) (k : K (some (ti (dsM t))) H) : fm_Y (d + 1) 283 [.int (Int32.ofInt t)] H K := by
  refine m283 [ti t] ?_
  refine ⟨by omega, fun w => ?_, fun w => ?_⟩
  · refine ⟨by omega, ?_⟩
    have e : ((dsM t : Nat) : Int) = t / 2 - 1 := by
      unfold dsM
      rw [if_neg (by omega)]
      omega
    rw [e] at k
    exact k
  · have e : dsM t = 0 := if_pos (Or.inl (by omega))
    rw [e] at k
    exact k
theorem mdistanceBase_Y {t : Int} (h0 : 0 ≤ t) (h1 : t ≤ 29) (k : K (some (ti (dsB t))) H) : fm_Y (d + 2) 282 [.int (Int32.ofInt t)] H K := by
  refine m282 [ti t] ?_
  unfold dsB at k
  refine ⟨by omega, fun w => ?_, fun w => ?_⟩
  · rw [if_neg (by omega)] at k
    refine ⟨by omega, ?_⟩
    refine mdistanceBits_Y h0 h1 ?_
    have e : dsM t = (t / 2 - 1).toNat := if_neg (by omega)
    refine ⟨by rw [e]; omega, ?_⟩
    rw [e, Int.toNat_natCast]
    exact k
  · rw [if_pos (Or.inl (by omega))] at k
    exact k
theorem tr204 (sh : Nat → Option Shp) : trS sh 204 205 := ⟨rfl, rfl, by decide, by decide, by decide, by decide, by decide⟩
theorem tr206 (sh : Nat → Option Shp) : trS sh 206 207 := ⟨rfl, rfl, by decide, by decide, by decide, by decide, by decide⟩
theorem tr208 (sh : Nat → Option Shp) : trS sh 208 209 := ⟨rfl, rfl, by decide, by decide, by decide, by decide, by decide⟩
variable {na nb : Nat} {la lb : Int → Int} {W : Int}
/-- once something is wrong -/
theorem vX209 {y2 y3 y4 y5 y6 : Option TV} (hC : vC sh M0 sc tc nS nT) (hna : na ≤ 1000) (hv : trV (M 205) la na 15 0 0 0 0) (hR : vR M0 M tc none) (k : ∀ M2 : FM, vR M0 M2 tc none → wk3 M M2 tc → K none (sh, M2, nx, zl)) : b337_209 (d + 2) (fW (d + 2) kd337 K) K [some (fx 168), some (ti W), y2, y3, y4, y5, y6] [] (sh, M, nx, zl) := by
  refine readSymbol_Y hC (tr204 sh) hna hv hR (fun M2 t1 t2 => ?_)
  have t1' : vR M0 M2 tc none := t1
  have hf := t1'.2.1
  refine s337_9 (d + 2) K _ _ _ ?_
  refine ⟨by show -2147483648 ≤ (0 : Int) ∧ (0 : Int) ≤ 2147483647 ∧ _; omega, fun w => ?_, fun w => ?_⟩
  · exact k M2 t1' (wk2_3 t2)
  · refine ⟨by omega, fun w => k M2 t1' (wk2_3 t2), fun w => by omega⟩
theorem vX174 {n6 n3 : Int} {y2 y4 y5 : Option TV} (hC : vC sh M0 sc tc nS nT) (hna : na ≤ 1000) (hv : trV (M 205) la na 15 0 0 0 0) (hn : (0 ≤ n6 ∧ n6 ≤ 1000) ∧ (0 ≤ n3 ∧ n3 ≤ 1000)) (hR : vR M0 M tc none) (k : ∀ M2 : FM, vR M0 M2 tc none → wk3 M M2 tc → K none (sh, M2, nx, zl)) : fm_X (d + 2) kd337 174 [some (fx 168), some (ti W), y2, some (ti n3), y4, y5, some (ti n6)] [] (sh, M, nx, zl) K := by
  refine s337_174 (d + 2) K _ _ _ ?_
  have hf := hR.2.1
  refine ⟨by omega, fun w => vX209 hC hna hv hR k, fun w => ?_⟩
  refine ⟨by omega, fun w => vX209 hC hna hv hR k, fun w => by omega⟩
theorem vX138 {n3 f5 t4 : Int} {y2 y5 y6 : Option TV} (hC : vC sh M0 sc tc nS nT) (hna : na ≤ 1000) (hv : trV (M 205) la na 15 0 0 0 0) (hn : 0 ≤ n3 ∧ n3 ≤ 1000) (hR : vR M0 M tc none) (k : ∀ M2 : FM, vR M0 M2 tc none → wk3 M M2 tc → K none (sh, M2, nx, zl)) : b337_138 (d + 2) (fW (d + 2) kd337 K) K [some (fx 168), some (ti W), y2, some (ti n3), some (ti t4), y5, y6] [ti f5] (sh, M, nx, zl) := by
  have hf := hR.2.1
  have ht : tc ≠ 168 := hC.2.1.2.2.1.1
  refine ⟨by omega, fun w => ?_, fun w => by omega⟩
  refine ⟨Or.inr rfl, ?_⟩
  obtain ⟨z1, z2⟩ := vW1 ht hR
  exact vX174 hC hna (by rw [um_ne (by decide)]; exact hv) (by omega) z1 (fun M2 x1 x2 => k M2 x1 (wk3_t (wk2_3 z2) x2))
theorem vX104 {n3 t4 : Int} {y2 y5 y6 : Option TV} (hC : vC sh M0 sc tc nS nT) (hna : na ≤ 1000) (hv : trV (M 205) la na 15 0 0 0 0) (hn : 0 ≤ n3 ∧ n3 ≤ 1000) {st : St} (hR : vR M0 M tc st) (k : ∀ M2 : FM, vR M0 M2 tc none → wk3 M M2 tc → K none (sh, M2, nx, zl)) : b337_104 (d + 2) (fW (d + 2) kd337 K) K [some (fx 168), some (ti W), y2, some (ti n3), some (ti t4), y5, y6] [fx 168] (sh, M, nx, zl) := by
  have ht : tc ≠ 168 := hC.2.1.2.2.1.1
  refine ⟨Or.inr rfl, ?_⟩
  obtain ⟨z1, z2⟩ := vW1 ht hR
  have hf := z1.2.1
  refine ⟨by omega, fun w => by omega, fun w => ?_⟩
  exact vX138 hC hna (by rw [um_ne (by decide)]; exact hv) hn z1 (fun M2 x1 x2 => k M2 x1 (wk3_t (wk2_3 z2) x2))
theorem vX78 {n3 s2 : Int} {y3 y4 y5 y6 : Option TV} (hC : vC sh M0 sc tc nS nT) (hna : na ≤ 1000) (hnb : nb ≤ 1000) (hv : trV (M 205) la na 15 0 0 0 0) (hv2 : trV (M 207) lb nb 15 0 0 0 0) (hn : 0 ≤ n3 ∧ n3 ≤ 1000) (hR : vR M0 M tc none) (k : ∀ M2 : FM, vR M0 M2 tc none → wk3 M M2 tc → K none (sh, M2, nx, zl)) : b337_78 (d + 2) (fW (d + 2) kd337 K) K [some (fx 168), some (ti W), some (ti s2), y3, y4, y5, y6] [ti n3] (sh, M, nx, zl) := by
  refine readSymbol_Y hC (tr206 sh) hnb hv2 hR (fun M2 t1 t2 => ?_)
  have t1' : vR M0 M2 tc none := t1
  have hf := t1'.2.1
  refine ⟨by omega, fun w => ?_, fun w => by omega⟩
  exact vX104 hC hna (by rw [t2.1 205 (by decide)]; exact hv) hn t1' (fun M3 x1 x2 => k M3 x1 (wk3_t (wk2_3 t2) x2))
/-- copying back, a byte at a time, as far as there is room -/
theorem v174 {far n3 : Int} {y2 y4 : Option TV} {p4 : Int} {o0 : List Int} (hC : vC sh M0 sc tc nS nT) (hna : na ≤ 1000) (hf1 : 1 ≤ far) (hn : 0 ≤ n3 ∧ n3 ≤ 1000)
    (kS : ∀ (M2 : FM) (y6 : Option TV), (o0.length : Int) + n3 ≤ M0 168 57 → vR M0 M2 tc (some (p4, cpB o0 far.toNat n3.toNat)) → wk3 M M2 tc → b337_209 (d + 2) (fW (d + 2) kd337 K) K [some (fx 168), some (ti W), y2, some (ti n3), y4, some (ti far), y6] [] (sh, M2, nx, zl))
    (kN : ∀ M2 : FM, ¬ ((o0.length : Int) + n3 ≤ M0 168 57) → vR M0 M2 tc none → wk3 M M2 tc → K none (sh, M2, nx, zl)) (hv : trV (M 205) la na 15 0 0 0 0) (htc5 : tc ≠ 205) : ∀ (r : Nat) (i : Int) (o2 : List Int) (M2 : FM), i + r = n3 → 0 ≤ i → (o2.length : Int) = o0.length + i → far ≤ o2.length → cpB o0 far.toNat n3.toNat = cpB o2 far.toNat r → vR M0 M2 tc (some (p4, o2)) → wk3 M M2 tc → fm_X (d + 2) kd337 174 [some (fx 168), some (ti W), y2, some (ti n3), y4, some (ti far), some (ti i)] [] (sh, M2, nx, zl) K := by
  have hC0 := hC
  obtain ⟨⟨⟨u1, u2⟩, u3, u4⟩, ⟨u5, ⟨u6, u6b⟩, ⟨u7, u7b⟩, u8⟩, ⟨u9, u10⟩, ⟨u11, u12, u12b, u12c⟩, u13⟩ := hC
  intro r
  induction r with
  | zero =>
    intro i o2 M2 a1 a2 a3 a3b a4 a5 a6
    have a57 := a5.2.2.2
    refine s337_174 (d + 2) K _ _ _ ?_
    refine ⟨by omega, fun w => ?_, fun w => by omega⟩
    have e : cpB o2 far.toNat 0 = o2 := rfl
    rw [e] at a4
    rw [← a4] at a5
    exact kS M2 _ (by omega) a5 a6
  | succ r ih =>
    intro i o2 M2 a1 a2 a3 a3b a4 a5 a6
    have hf := a5.2.1.2.1
    have h56 := a5.2.1.2.2.1
    have hsl := a5.2.1.2.2.2
    have a57 := a5.2.2.2
    have f55 : M2 168 55 = tc := by rw [a5.1.1 55 (by omega) (by omega) (by omega), u2]
    refine s337_174 (d + 2) K _ _ _ ?_
    refine ⟨by omega, fun w => by omega, fun w => ?_⟩
    refine ⟨by omega, fun w => by omega, fun w => ?_⟩
    refine ⟨fun m e => ?_, fun w5 => by omega⟩
    have em : m = tc := by omega
    subst em
    refine ⟨nT, u4, by omega, ?_⟩
    refine makeByte_Y hC0 a5 (fun M3 t1 t2 => ?_)
    by_cases hlt : (o2.length : Int) < M0 168 57
    · have ex : ((M2 m (M2 168 56 - far) + 128) % 256 - 128) % 256 = (o2[o2.length - far.toNat]?).getD 0 := by
        have z := sl_get (f := M2 m) o2.length 0 (o2.length - far.toNat) (by omega)
        rw [hsl] at z
        rw [z]
        show _ = M2 m (0 + ((o2.length - far.toNat : Nat) : Int)) % 256
        rw [show M2 168 56 - far = 0 + ((o2.length - far.toNat : Nat) : Int) by omega]
        omega
      have es : pS (M0 168 57) ((M2 m (M2 168 56 - far) + 128) % 256 - 128) (some (p4, o2)) = some (p4, o2 ++ [(o2[o2.length - far.toNat]?).getD 0]) := by
        have z : pS (M0 168 57) ((M2 m (M2 168 56 - far) + 128) % 256 - 128) (some (p4, o2)) = some (p4, o2 ++ [((M2 m (M2 168 56 - far) + 128) % 256 - 128) % 256]) := if_pos hlt
        rw [z, ex]
      rw [es] at t1
      have hl : (o2 ++ [(o2[o2.length - far.toNat]?).getD 0]).length = o2.length + 1 := by simp
      exact ih (i + 1) _ M3 (by omega) (by omega) (by rw [hl]; omega) (by rw [hl]; omega) a4 t1 (wk3_t a6 t2)
    · have es : pS (M0 168 57) ((M2 m (M2 168 56 - far) + 128) % 256 - 128) (some (p4, o2)) = none := if_neg hlt
      rw [es] at t1
      refine vX174 (la := la) hC0 hna ?_ (by omega) t1 (fun M4 x1 x2 => kN M4 (by omega) x1 (wk3_t (wk3_t a6 t2) x2))
      rw [(wk3_t a6 t2).1 205 (by decide) (fun e => htc5 e.symm)]
      exact hv
end VSYMS
