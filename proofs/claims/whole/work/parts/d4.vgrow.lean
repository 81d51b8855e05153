/-! UNPACKING, the reference: grow -/
section VGROW
variable {d nx zl : Nat} {K : Option TV → FH → Prop} {sh : Nat → Option Shp} {M : FM} {tr ct : Nat} {ls : Int → Int} {n : Nat}
theorem bit_of {code : Int} {l k d1 : Nat} (hl : l ≤ 15) (hk : k + d1 + 1 = l) : code * 2 ^ (15 - l) / 2 ^ (14 - d1) % 2 = code / 2 ^ k % 2 := by
  have e : (2 : Int) ^ (14 - d1) = 2 ^ k * 2 ^ (15 - l) := by
    rw [← Int.pow_add]
    congr 1
    omega
  rw [e, Int.mul_ediv_mul_of_pos_left _ _ (two_pos _)]
theorem mgrow_Y {A : Int → Int} {D : Int → Nat} {N Lc code : Int} {I : Nat → Prop} {s l : Nat} (hts : trS sh tr ct) (hV : tnV (M ct) A D N (code * 2 ^ (15 - l)) ls n I Lc) (hr : rstI A N (code * 2 ^ (15 - l))) (hN : M tr 1 = N) (hl : 1 ≤ l ∧ l ≤ 15) (hc : 0 ≤ code ∧ code ≤ 40000) (hU : code * 2 ^ (15 - l) + 2 ^ (15 - l) ≤ 32768) (hLc : 0 ≤ Lc ∧ Lc ≤ 400) (hs : s < n) (hsn : n ≤ 1000) (hls : ls s = l) (hpos : posS ls n s = code * 2 ^ (15 - l))
    (k : ∀ (M2 : FM) (A2 : Int → Int) (D2 : Int → Nat) (N2 : Int), tnV (M2 ct) A2 D2 N2 (code * 2 ^ (15 - l) + 2 ^ (15 - l)) ls n (fun x => I x ∨ x = s) (Lc + 1) → rstI A2 N2 (code * 2 ^ (15 - l) + 2 ^ (15 - l)) → M2 tr 1 = N2 → (∀ c : Nat, c ≠ ct → c ≠ tr → M2 c = M c) → K none (sh, M2, nx, zl)) : fm_Y (d + 1) 336 [.ref tr, .int (Int32.ofInt code), .int (Int32.ofInt l), .int (Int32.ofInt s)] (sh, M, nx, zl) K := by
  obtain ⟨ht, hct, hc168, hc3, htr3, htc, htr⟩ := hts
  refine m336 [gr tr, ti code, ti l, ti s] ?_
  have hX := two_pos (15 - l)
  have hU0 : 0 ≤ code * 2 ^ (15 - l) := Int.mul_nonneg hc.1 (by omega)
  obtain ⟨U, gU⟩ : ∃ U : Int, U = code * 2 ^ (15 - l) := ⟨_, rfl⟩
  rw [← gU] at hV hr hpos hU hU0 k
  have L : ∀ (g d1 : Nat) (m : Int) (M2 : FM) (A2 : Int → Int) (D2 : Int → Nat) (N2 : Int) (y6 : Option TV), g + d1 + 1 = l → tnV (M2 ct) A2 D2 N2 U ls n I Lc → wkI (M2 ct) A2 D2 N2 U d1 m → M2 tr 1 = N2 → (∀ c : Nat, c ≠ ct → c ≠ tr → M2 c = M c) → fm_X d kd336 8 [some (gr tr), some (ti code), some (ti l), some (ti s), some (ti m), some (ti g), y6] [] (sh, M2, nx, zl) K := by
    intro g
    induction g with
    | zero =>
      intro d1 m M2 A2 D2 N2 y6 a1 a2 a3 a4 a5
      have bd := tn_bound a2
      have mr := a3.1.1
      have hb : code % 2 = U / 2 ^ (14 - d1) % 2 := by
        have z := bit_of (code := code) (l := l) (k := 0) (d1 := d1) hl.2 (by omega)
        rw [← gU] at z
        rw [z]
        show code % 2 = code / 1 % 2
        omega
      refine s336_8 d K _ _ _ ?_
      refine ⟨by omega, fun w => ?_, fun w => by omega⟩
      refine ⟨_, ht, ?_⟩
      refine ⟨1300, hct, by omega, ?_⟩
      have e14 : 14 - d1 = 15 - l := by omega
      obtain ⟨p1, p2, p3⟩ := put_leaf (s := s) (T2 := ur (M2 ct) (2 * m + code % 2) (-1 - s)) a2 a3 (by omega) hb (by rw [e14, gU]; exact mlt_mul _ _) hU0 hs (by rw [hls]; congr 1; omega) hpos (ur_at _ _ _) (fun i hi => ur_ne hi)
      rw [e14] at p2 p3
      refine k _ A2 D2 N2 ?_ p3 ?_ (fun c c1 c2 => ?_)
      · rw [um_at]
        exact p2
      · rw [um_ne htc]
        exact a4
      · rw [um_ne c1]
        exact a5 c c1 c2
    | succ g ih =>
      intro d1 m M2 A2 D2 N2 y6 a1 a2 a3 a4 a5
      have bd := tn_bound a2
      have N1 := a2.1.1.1
      have mr := a3.1.1
      obtain ⟨b, gb⟩ : ∃ b : Int, b = code / 2 ^ ((g + 1 : Nat) : Int).toNat % 2 := ⟨_, rfl⟩
      have hb : b = U / 2 ^ (14 - d1) % 2 := by
        rw [gb, Int.toNat_natCast, gU]
        exact (bit_of hl.2 (by omega)).symm
      have NL := no_leaf a2 a3 (by omega) hb
      refine s336_8 d K _ _ _ ?_
      refine ⟨by omega, fun w => by omega, fun w => ?_⟩
      refine ⟨by omega, ?_⟩
      refine ⟨_, ht, ?_⟩
      refine ⟨1300, hct, by rw [← gb]; omega, ?_⟩
      have rT : M2 ct (2 * m + b) < N2 := by
        by_cases e : 0 < M2 ct (2 * m + b)
        · exact ((a2.2.2.1 m b mr.1 mr.2 (by omega) (by omega)).1 e).1
        · omega
      refine ⟨by rw [← gb]; omega, fun w2 => ?_, fun w2 => ?_⟩
      · rw [← gb] at w2
        refine ⟨_, ht, ?_⟩
        refine ⟨1300, hct, by rw [← gb]; omega, ?_⟩
        have z := ih (d1 + 1) _ M2 A2 D2 N2 (some (ti (2 * m + b))) (by omega) a2 (step_old a2 a3 (by omega) hb (by omega)) a4 a5
        rw [gb] at z
        rw [show (g : Int) = ((g + 1 : Nat) : Int) + -1 by omega] at z
        exact z
      · rw [← gb] at w2
        refine ⟨_, ht, ?_⟩
        refine ⟨_, ht, ?_⟩
        refine ⟨1300, hct, by rw [← gb]; omega, ?_⟩
        refine ⟨_, ht, ?_⟩
        refine ⟨_, ht, ?_⟩
        have hz : M2 ct (2 * m + b) = 0 := by
          by_cases e : M2 ct (2 * m + b) = 0
          · exact e
          · exact absurd w2 (by omega)
        obtain ⟨R1, g1⟩ : ∃ R1 : FM, R1 = um M2 ct (ur (M2 ct) (2 * m + b) (M2 tr 1)) := ⟨_, rfl⟩
        have R1t : R1 tr 1 = N2 := by rw [g1, um_ne htc]; exact a4
        have R1c : R1 ct = ur (M2 ct) (2 * m + b) N2 := by rw [g1, um_at, a4]
        have R1o : ∀ c : Nat, c ≠ ct → R1 c = M2 c := fun c hc => by rw [g1, um_ne hc]
        obtain ⟨R2, g2⟩ : ∃ R2 : FM, R2 = um R1 ct (ur (R1 ct) (2 * R1 tr 1) 0) := ⟨_, rfl⟩
        have R2t : R2 tr 1 = N2 := by rw [g2, um_ne htc]; exact R1t
        have R2c : R2 ct = ur (ur (M2 ct) (2 * m + b) N2) (2 * N2) 0 := by rw [g2, um_at, R1c, R1t]
        have R2o : ∀ c : Nat, c ≠ ct → R2 c = M2 c := fun c hc => by rw [g2, um_ne hc]; exact R1o c hc
        obtain ⟨R3, g3⟩ : ∃ R3 : FM, R3 = um R2 ct (ur (R2 ct) (2 * R2 tr 1 + 1) 0) := ⟨_, rfl⟩
        have R3t : R3 tr 1 = N2 := by rw [g3, um_ne htc]; exact R2t
        have R3c : R3 ct = ur (ur (ur (M2 ct) (2 * m + b) N2) (2 * N2) 0) (2 * N2 + 1) 0 := by rw [g3, um_at, R2c, R2t]
        have R3o : ∀ c : Nat, c ≠ ct → R3 c = M2 c := fun c hc => by rw [g3, um_ne hc]; exact R2o c hc
        obtain ⟨R4, g4⟩ : ∃ R4 : FM, R4 = um R3 tr (ur (R3 tr) 1 (R3 tr 1 + 1)) := ⟨_, rfl⟩
        have R4t : R4 tr 1 = N2 + 1 := by rw [g4, um_at, ur_at, R3t]
        have R4c : R4 ct = ur (ur (ur (M2 ct) (2 * m + b) N2) (2 * N2) 0) (2 * N2 + 1) 0 := by rw [g4, um_ne (fun e => htc e.symm)]; exact R3c
        have R4o : ∀ c : Nat, c ≠ ct → c ≠ tr → R4 c = M2 c := fun c hc h2 => by rw [g4, um_ne h2]; exact R3o c hc
        have f1 : R4 ct (2 * m + b) = N2 := by rw [R4c, ur_ne (by omega), ur_ne (by omega), ur_at]
        have f2 : R4 ct (2 * N2) = 0 := by rw [R4c, ur_ne (by omega), ur_at]
        have f3 : R4 ct (2 * N2 + 1) = 0 := by rw [R4c, ur_at]
        have f4 : ∀ i : Int, i ≠ 2 * m + b → i ≠ 2 * N2 → i ≠ 2 * N2 + 1 → R4 ct i = M2 ct i := fun i i1 i2 i3 => by rw [R4c, ur_ne i3, ur_ne i2, ur_ne i1]
        obtain ⟨s1, s2⟩ := step_new (T2 := R4 ct) a2 a3 (by omega) hb hz hU0 f1 f2 f3 f4
        have bd2 := tn_bound s1
        refine ⟨1300, hct, ?_, ?_⟩
        · rw [← gb, ← g1, R1t]
          omega
        refine ⟨_, ht, ?_⟩
        refine ⟨_, ht, ?_⟩
        refine ⟨1300, hct, ?_, ?_⟩
        · rw [← gb, ← g1, ← g2, R2t]
          omega
        refine ⟨_, ht, ?_⟩
        refine ⟨_, ⟨htr3, ht, rfl⟩, ?_⟩
        refine ⟨_, ht, ?_⟩
        refine ⟨1300, hct, by rw [← gb]; omega, ?_⟩
        have z := ih (d1 + 1) N2 R4 (ur A2 N2 U) (udN D2 N2 (d1 + 1)) (N2 + 1) (some (ti (2 * m + b))) (by omega) s1 s2 R4t (fun c c1 c2 => by rw [R4o c c1 c2]; exact a5 c c1 c2)
        rw [← f1, show (g : Int) = ((g + 1 : Nat) : Int) + -1 by omega, g4, g3, g2, g1, gb] at z
        exact z
  obtain ⟨g, hg⟩ : ∃ g : Nat, g + 0 + 1 = l := ⟨l - 1, by omega⟩
  have z := L g 0 0 M A D N none hg hV (wk_begin hV hr ⟨hU0, by omega⟩) hN (fun _ _ _ => rfl)
  rw [show (g : Int) = (l : Int) - 1 by omega] at z
  exact z
end VGROW
