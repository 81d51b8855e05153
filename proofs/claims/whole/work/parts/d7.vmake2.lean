/-! UNPACKING, the reference: make, whole -/
section VMAKE2
variable {d nx zl : Nat} {K : Option TV → FH → Prop} {sh : Nat → Option Shp} {M : FM} {tr ct fr nF n : Nat} {at0 z : Int} {ls : Int → Int}
theorem mmake2_Y (hts : trS sh tr ct) (hfr : shp sh fr = some (.inl (.int, nF))) (hne : fr ≠ tr ∧ fr ≠ ct) (ha : 0 ≤ at0 ∧ at0 + n ≤ nF) (hnF : nF ≤ 400) (hn : n ≤ 320) (hls : ∀ s : Nat, s < n → M fr (at0 + s) = ls s ∧ 0 ≤ ls s ∧ ls s ≤ 15) (hz : z = 0 ∨ z = 1)
    (k : ∀ (r : Int) (M2 : FM), (r = 1 ∧ okL ls n z ∧ trV (M2 ct) ls n 15 0 0 0 0 ∨ r = 0 ∧ ¬ okL ls n z) → (∀ c : Nat, c ≠ ct → c ≠ tr → M2 c = M c) → K (some (ti r)) (sh, M2, nx, zl)) : fm_Y (d + 2) 335 [.ref tr, .ref fr, .int (Int32.ofInt at0), .int (Int32.ofInt n), .int (Int32.ofInt z)] (sh, M, nx, zl) K := by
  have hts0 := hts
  obtain ⟨ht, hct, hc168, hc3, htr3, htc, htr⟩ := hts
  refine m335 [gr tr, gr fr, ti at0, ti n, ti z] ?_
  refine ⟨_, ⟨htr3, ht, rfl⟩, ?_⟩
  refine ⟨_, ht, ?_⟩
  refine ⟨1300, hct, by omega, ?_⟩
  refine ⟨_, ht, ?_⟩
  refine ⟨1300, hct, by omega, ?_⟩
  obtain ⟨R1, g1⟩ : ∃ R1 : FM, R1 = um M tr (ur (M tr) 1 1) := ⟨_, rfl⟩
  obtain ⟨R2, g2⟩ : ∃ R2 : FM, R2 = um R1 ct (ur (R1 ct) 0 0) := ⟨_, rfl⟩
  obtain ⟨R, g3⟩ : ∃ R : FM, R = um R2 ct (ur (R2 ct) 1 0) := ⟨_, rfl⟩
  have Rt : R tr 1 = 1 := by rw [g3, um_ne htc, g2, um_ne htc, g1, um_at, ur_at]
  have R0 : R ct 0 = 0 := by rw [g3, um_at, ur_ne (by omega), g2, um_at, ur_at]
  have R01 : R ct 1 = 0 := by rw [g3, um_at, ur_at]
  have Ro : ∀ c : Nat, c ≠ ct → c ≠ tr → R c = M c := fun c c1 c2 => by rw [g3, um_ne c1, g2, um_ne c1, g1, um_ne c2]
  have hlr : ∀ s : Nat, s < n → 0 ≤ ls s ∧ ls s ≤ 15 := fun s hs => (hls s hs).2
  have L : ∀ (G s : Nat) (y8 : Option TV), n - s < G → s ≤ n → fm_X (d + 1) kd335 28 [some (gr tr), some (gr fr), some (ti at0), some (ti n), some (ti z), some (ti (smS ls s)), some (ti (mnS ls s)), some (ti s), y8, none] [] (sh, R, nx, zl) K := by
    intro G
    induction G with
    | zero => intro s y8 b1; omega
    | succ G ih =>
      intro s y8 b1 b2
      have sb := smS_le ls s (fun x hx => hlr x (by omega))
      refine s335_28 (d + 1) K _ _ _ ?_
      refine ⟨by omega, fun w => ?_, fun w => ?_⟩
      · have es : s = n := by omega
        subst es
        obtain ⟨e1, e2⟩ := smS_eq ls s hlr
        have ok := okL_iff ls s z
        have ssl := sumL_le ls s 15
        rw [← e1, ← e2] at ok
        have GO : okL ls s z → b335_119 (d + 1) (fW (d + 1) kd335 K) K [some (gr tr), some (gr fr), some (ti at0), some (ti s), some (ti z), some (ti (smS ls s)), some (ti (mnS ls s)), some (ti s), y8, none] [] (sh, R, nx, zl) := by
          intro h
          have hsum : sumL ls s 15 ≤ 32768 := by
            have h2 := ok.2 h
            rw [← e1]
            rcases h2 with q | q | q
            · omega
            · omega
            · omega
          have zz := mk125 (d := d) (nx := nx) (zl := zl) (K := K) (z := z) (M := R) (all := smS ls s) (many := mnS ls s) hts0 hfr hne ha hnF hn (fun x hx => by rw [Ro fr hne.2 hne.1]; exact hls x hx) hsum (fun M2 x1 x2 => k 1 M2 (Or.inl ⟨rfl, h, x1⟩) (fun c c1 c2 => (x2 c c1 c2).trans (Ro c c1 c2))) 15 0 0 R (fun _ => 0) (fun _ => 0) 1 none rfl (by omega) (fun _ => by show 2 * 0 * _ = (0 : Int); rw [Int.mul_zero, Int.zero_mul]) (tn_0 R0 R01 ls s (fun x hx => by unfold inI at hx; omega)) (fun m m0 m1 _ => by omega) Rt (fun _ _ _ => rfl)
          exact zz
        have NO : ¬ okL ls s z → b335_117 (d + 1) (fW (d + 1) kd335 K) K [some (gr tr), some (gr fr), some (ti at0), some (ti s), some (ti z), some (ti (smS ls s)), some (ti (mnS ls s)), some (ti s), y8, none] [] (sh, R, nx, zl) := by
          intro h
          exact ⟨Or.inl rfl, k 0 R (Or.inr ⟨rfl, h⟩) Ro⟩
        have B107 : ¬ (smS ls s = 32768) → ¬ (mnS ls s = 1 ∧ smS ls s = 16384) → b335_107 (d + 1) (fW (d + 1) kd335 K) K [some (gr tr), some (gr fr), some (ti at0), some (ti s), some (ti z), some (ti (smS ls s)), some (ti (mnS ls s)), some (ti s), y8, none] [] (sh, R, nx, zl) := by
          intro q1 q2
          refine ⟨by omega, fun w2 => NO (fun h => ?_), fun w2 => ?_⟩
          · rcases ok.2 h with q | q | q
            · exact q1 q
            · exact q2 q
            · exact w2 q.1
          · refine ⟨by omega, fun w3 => GO (ok.1 (Or.inr (Or.inr ⟨by omega, w3⟩))), fun w3 => NO (fun h => ?_)⟩
            rcases ok.2 h with q | q | q
            · exact q1 q
            · exact q2 q
            · exact q.2 (by omega)
        refine ⟨by omega, fun w2 => GO (ok.1 (Or.inl w2)), fun w2 => ?_⟩
        refine ⟨by omega, fun w3 => B107 w2 (fun q => w3 q.1), fun w3 => ?_⟩
        refine ⟨by omega, fun w4 => GO (ok.1 (Or.inr (Or.inl ⟨by omega, w4⟩))), fun w4 => B107 w2 (fun q => w4 q.2)⟩
      · have hs : s < n := by omega
        obtain ⟨c1, c2, c3⟩ := hls s hs
        have ev : R fr (at0 + s) = ls s := by rw [Ro fr hne.2 hne.1]; exact c1
        refine ⟨nF, hfr, by omega, ?_⟩
        have z2 := ih (s + 1) (some (ti (R fr (at0 + s)))) (by omega) (by omega)
        have e1 : smS ls (s + 1) = smS ls s + (if 0 < ls s then 2 ^ (15 - (ls s).toNat) else 0) := rfl
        have e2 : mnS ls (s + 1) = mnS ls s + (if 0 < ls s then 1 else 0) := rfl
        refine ⟨by omega, fun w2 => ?_, fun w2 => ?_⟩
        · refine ⟨by omega, fun w3 => ?_, fun w3 => by omega⟩
          rw [if_neg (by omega)] at e1 e2
          rw [e1, e2, show smS ls s + 0 = smS ls s by omega, show mnS ls s + 0 = mnS ls s by omega, show ((s + 1 : Nat) : Int) = (s : Int) + 1 by omega] at z2
          exact z2
        · refine ⟨by omega, ?_⟩
          refine ⟨by omega, fun w3 => by omega, fun w3 => ?_⟩
          rw [if_pos (by omega)] at e1 e2
          have e3 : smS ls (s + 1) = smS ls s + 1 * 2 ^ ((15 : Int) - R fr (at0 + s)).toNat := by
            rw [e1, Int.one_mul, ev, show ((15 : Int) - ls s).toNat = 15 - (ls s).toNat by omega]
          rw [e3, e2, show ((s + 1 : Nat) : Int) = (s : Int) + 1 by omega] at z2
          exact z2
  have zz := L (n + 1) 0 none (by omega) (by omega)
  rw [g3, g2, g1] at zz
  exact zz
end VMAKE2
