/-! CALLS of both: keep -/
section KEEP
variable {C W : FM → Prop} {L d : Nat} {xs : Nat → Int32}
theorem keepA_Y {nx zl : Nat} {K : Option TV → FH → Prop} {sh : Nat → Option Shp} {M : FM} {n : Int} (hn : -2147483648 ≤ n ∧ n ≤ 2147483647) (h4 : 0 ≤ M 4 1 ∧ M 4 1 ≤ 16384) (h98 : 0 ≤ M 98 1 ∧ M 98 1 ≤ 131072)
    (kB : ¬ (0 ≤ n ∧ n ≤ M 98 1) → K (some (ti (-1))) (sh, M, nx, zl))
    (kF : 0 ≤ n → n ≤ M 98 1 → 131072 < n + M 4 1 → K (some (ti (-6))) (sh, M, nx, zl))
    (kO : 0 ≤ n → n ≤ M 98 1 → n + M 4 1 ≤ 131072 → ∀ M2 : FM, M2 99 = cpf (M 5) (M 99) 0 n (M 4 1) → M2 98 1 = n + M 4 1 → M2 3 = ur (M 3) 6 0 → (∀ c : Nat, c ≠ 3 → c ≠ 98 → c ≠ 99 → M2 c = M c) → K (some (ti (n + M 4 1))) (sh, M2, nx, zl)) : fm_Y (d + 2) 222 [.ref 3, .int (Int32.ofInt n)] (sh, M, nx, zl) K := by
  refine m222 [fx 3, ti n] ?_
  refine ⟨by omega, fun w => kB (by omega), fun w => ?_⟩
  refine ⟨by omega, fun w2 => ?_, fun w2 => kB (by omega)⟩
  refine ⟨by omega, fun w3 => ?_, fun w3 => kF (by omega) (by omega) (by omega)⟩
  obtain ⟨R, gR⟩ : ∃ R : FM, R = um M 98 (ur (M 98) 1 n) := ⟨_, rfl⟩
  have Ro : ∀ c : Nat, c ≠ 98 → R c = M c := fun c c1 => by rw [gR, um_ne c1]
  have R1 : R 98 1 = n := by rw [gR, um_at, ur_at]
  have e4 : R 4 1 = M 4 1 := by rw [Ro 4 (by decide)]
  refine fm_Y.eqE (h2 := (sh, um M 98 (ur (M 98) 1 n), nx, zl)) rfl ?_
  rw [← gR]
  refine putAll_M (n := R 4 1) (rowS_98 sh) (c := 5) (nc := 16384) rfl (by decide) (by decide) (by decide) (by omega) (by omega) (by omega) (by omega) (by omega) ?_
  refine ⟨Or.inl rfl, ?_⟩
  obtain ⟨M2, g2⟩ : ∃ M2 : FM, M2 = um (rowW R 98 99 (cpf (R 5) (R 99) 0 (R 98 1) (R 4 1)) (R 98 1 + R 4 1) (R 98 2)) 3 (ur (rowW R 98 99 (cpf (R 5) (R 99) 0 (R 98 1) (R 4 1)) (R 98 1 + R 4 1) (R 98 2) 3) 6 0) := ⟨_, rfl⟩
  have e98 : M2 98 1 = n + M 4 1 := by rw [g2, um_ne (by decide), rowW_1, R1, e4]
  have z := kO (by omega) (by omega) (by omega) M2 ?_ e98 ?_ (fun c c1 c2 c3 => ?_)
  · rw [← e98, g2] at z
    exact z
  · rw [g2, um_ne (by decide), rowW_b (by decide), R1, e4, Ro 5 (by decide), Ro 99 (by decide)]
  · rw [g2, um_at, rowW_o (by decide) (by decide), Ro 3 (by decide)]
  · rw [g2, um_ne c1, rowW_o c2 c3, Ro c c2]
theorem mkeep_Y {nx zl : Nat} {K : Option TV → FH → Prop} {sh : Nat → Option Shp} {M : FM} {n : Int} (hn : -2147483648 ≤ n ∧ n ≤ 2147483647) (h1 : 0 ≤ M 168 1 ∧ M 168 1 ≤ 16384) (h59 : 0 ≤ M 168 59 ∧ M 168 59 ≤ 131072)
    (kB : ¬ (0 ≤ n ∧ n ≤ M 168 59) → K (some (ti (-1))) (sh, utM M, nx, zl))
    (kF : 0 ≤ n → n ≤ M 168 59 → 131072 < n + M 168 1 → K (some (ti (-6))) (sh, utM M, nx, zl))
    (kO : 0 ≤ n → n ≤ M 168 59 → n + M 168 1 ≤ 131072 → ∀ M2 : FM, (∀ j : Int, 0 ≤ j → j < M 168 1 → M2 211 (n + j) % 256 = M 169 j % 256) → (∀ j : Int, j < n → M2 211 j = M 211 j) → M2 168 = ur (ur (utM M 168) 59 (n + M 168 1)) 91 0 → (∀ c : Nat, c ≠ 168 → c ≠ 211 → M2 c = M c) → K (some (ti (n + M 168 1))) (sh, M2, nx, zl)) : fm_Y (d + 2) 386 [.ref 168, .int (Int32.ofInt n)] (sh, M, nx, zl) K := by
  refine m386 [fx 168, ti n] ?_
  refine muse_Y ?_
  have s59 : utM M 168 59 = M 168 59 := rfl
  refine ⟨by omega, fun w => kB (by omega), fun w => ?_⟩
  refine ⟨by rw [s59]; omega, fun w2 => ?_, fun w2 => kB (by rw [s59] at w2; omega)⟩
  rw [s59] at w2
  refine ⟨by omega, fun w3 => ?_, fun w3 => kF (by omega) (by omega) (by omega)⟩
  have Lp : ∀ (N : Nat) (j : Int) (M3 : FM), (M 168 1 - j).toNat < N → 0 ≤ j → j ≤ M 168 1 → (∀ c : Nat, c ≠ 211 → M3 c = utM M c) → (∀ q : Int, q < n → M3 211 q = M 211 q) → (∀ q : Int, 0 ≤ q → q < j → M3 211 (n + q) % 256 = M 169 q % 256) → fm_X (d + 1) kd386 32 [some (fx 168), some (ti n), some (ti (M 168 1)), some (ti j)] [] (sh, M3, nx, zl) K := by
    intro N
    induction N with
    | zero => intro j M3 q1; omega
    | succ N ih =>
      intro j M3 q1 q2 q3 q4 q5 q6
      refine s386_32 (d + 1) K _ _ _ ?_
      refine ⟨by omega, fun v => ?_, fun v => ?_⟩
      · refine ⟨Or.inl rfl, ?_⟩
        have e168 := q4 168 (by decide)
        obtain ⟨M2, g2⟩ : ∃ M2 : FM, M2 = um (um M3 168 (ur (M3 168) 59 (n + M 168 1))) 168 (ur (um M3 168 (ur (M3 168) 59 (n + M 168 1)) 168) 91 0) := ⟨_, rfl⟩
        have M2o : ∀ c : Nat, c ≠ 168 → M2 c = M3 c := fun c hc => by rw [g2, um_ne hc, um_ne hc]
        have e59 : M2 168 59 = n + M 168 1 := by rw [g2, um_at, ur_ne (by omega), um_at, ur_at]
        have z := kO (by omega) (by omega) (by omega) M2 (fun q a b => ?_) (fun q a => ?_) ?_ (fun c c1 c2 => ?_)
        · rw [← e59, g2] at z
          exact z
        · rw [M2o 211 (by decide)]
          exact q6 q a (by omega)
        · rw [M2o 211 (by decide)]
          exact q5 q a
        · rw [g2, um_at, um_at, e168]
        · rw [M2o c c1, q4 c c2]
          unfold utM
          rw [um_ne c1]
      · have e9 : M3 169 = M 169 := q4 169 (by decide)
        refine ⟨by omega, ?_⟩
        refine ⟨by omega, ?_⟩
        refine ih (j + 1) _ (by omega) (by omega) (by omega) ?_ ?_ ?_
        · intro c hc
          rw [um_ne hc]
          exact q4 c hc
        · intro q hq
          rw [um_at, ur_ne (by omega)]
          exact q5 q hq
        · intro q a b
          rw [um_at]
          by_cases e : q = j
          · rw [e, ur_at, e9]
            omega
          · rw [ur_ne (by omega)]
            exact q6 q a (by omega)
  exact Lp ((M 168 1).toNat + 1) 0 (utM M) (by omega) (by omega) (by omega) (fun _ _ => rfl) (fun _ _ => rfl) (fun q a b => by omega)
theorem call_keep (hC : keepsC C) (hW : keepsV W) {n : Int} (hn : -2147483648 ≤ n ∧ n ≤ 2147483647) : ca_I (VV C W) L xs (d + 4) 221 386 [.int (Int32.ofInt n)] := by
  intro k H hR
  obtain ⟨sh, M, nx, zl⟩ := H
  have hR0 := hR
  obtain ⟨⟨⟨s1, s2⟩, ⟨s3, s4, s5⟩, s6⟩, ht, ho, hT, hv⟩ := hR
  dsimp only at s1 s2 s3 s4 s5 s6 ht ho hT hv
  obtain ⟨⟨t1, t2⟩, t3, t4, t5, t6⟩ := ht
  obtain ⟨⟨⟨g1, g2⟩, g3, g4⟩, g5, g6, g7, g8⟩ := hv
  have GB := sl_inj _ _ _ g4
  have TB := sl_inj _ _ _ t4
  have END : RR (VV C W) L xs (k + 1) (sh, utM (utC M), nx, zl) := RR_used (VV_keeps hC hW) hR0
  have c1 : (utC M) 168 1 = M 168 1 := rfl
  have c59 : (utC M) 168 59 = M 168 59 := rfl
  refine m221 [fx 3, ti n] ?_
  refine keepA_Y hn (by omega) (by omega) (fun h => ?_) (fun h1 h2 h3 => ?_) (fun h1 h2 h3 M1 v1 v2 v3 v4 => ?_)
  · refine useTape_Y ?_
    refine ⟨-1, rfl, ⟨rfl, rfl⟩, ?_⟩
    refine mkeep_Y (d := d + 2) hn (by rw [c1]; omega) (by rw [c59]; omega) (fun _ => ⟨rfl, END⟩) (fun q1 q2 => ?_) (fun q1 q2 => ?_)
    · rw [c59] at q2
      omega
    · rw [c59] at q2
      omega
  · refine useTape_Y ?_
    refine ⟨-6, rfl, ⟨rfl, rfl⟩, ?_⟩
    refine mkeep_Y (d := d + 2) hn (by rw [c1]; omega) (by rw [c59]; omega) (fun q => ?_) (fun _ _ _ => ⟨rfl, END⟩) (fun _ _ q => ?_)
    · rw [c59] at q
      omega
    · rw [c1] at q
      omega
  · refine useTape_Y ?_
    refine ⟨n + M 4 1, rfl, ⟨rfl, ?_⟩, ?_⟩
    · show M1 0 = M 0
      exact v4 0 (by decide) (by decide) (by decide)
    · have U : ∀ c : Nat, c ≠ 3 → c ≠ 4 → utC M1 c = M1 c := by
        intro c c1 c2
        unfold utC
        rw [um_ne c1, um_ne c2]
      have e168 : utC M1 168 = M 168 := (U 168 (by decide) (by decide)).trans (v4 168 (by decide) (by decide) (by decide))
      have e169 : utC M1 169 = M 169 := (U 169 (by decide) (by decide)).trans (v4 169 (by decide) (by decide) (by decide))
      have e211 : utC M1 211 = M 211 := (U 211 (by decide) (by decide)).trans (v4 211 (by decide) (by decide) (by decide))
      refine mkeep_Y (d := d + 2) hn (by rw [e168]; omega) (by rw [e168]; omega) (fun q => ?_) (fun _ _ q => ?_) (fun _ _ _ M2 w1 w2 w3 w4 => ?_)
      · rw [e168] at q
        omega
      · rw [e168] at q
        omega
      · rw [e168] at w1 w3 ⊢
        rw [e169] at w1
        rw [e211] at w2
        have u168 : utM (utC M1) 168 = ur (ur (M 168) 1 0) 2 0 := by
          unfold utM
          rw [um_at, e168]
        rw [u168] at w3
        refine ⟨by rw [t3], ?_⟩
        have C3 : M2 3 = ur (ur (M 3) 6 0) 5 0 := by
          rw [w4 3 (by decide) (by decide)]
          show ur (M1 3) 5 0 = _
          rw [v3]
        have L168 : ∀ i : Int, i ≠ 1 → i ≠ 2 → i ≠ 59 → i ≠ 91 → M2 168 i = M 168 i := by
          intro i i1 i2 i3 i4
          rw [w3, ur_ne i4, ur_ne i3, ur_ne i2, ur_ne i1]
        have e59 : M2 168 59 = n + M 168 1 := by rw [w3, ur_ne (by omega), ur_at]
        have CC : ∀ c : Nat, c ≠ 3 → c ≠ 4 → c ≠ 98 → c ≠ 99 → c ≠ 168 → c ≠ 211 → M2 c = M c := by
          intro c q1 q2 q3 q4 q5 q6
          rw [w4 c q5 q6, U c q1 q2]
          exact v4 c q1 q3 q4
        have C98 : M2 98 1 = n + M 4 1 := by
          rw [w4 98 (by decide) (by decide), U 98 (by decide) (by decide)]
          exact v2
        have C99 : M2 99 = cpf (M 5) (M 99) 0 n (M 4 1) := by
          rw [w4 99 (by decide) (by decide), U 99 (by decide) (by decide)]
          exact v1
        refine ⟨⟨⟨s1, ?_⟩, ⟨s3, ?_, ?_⟩, s6⟩, ⟨?_, ?_, ?_, ?_, ?_⟩, ⟨?_, ?_, ?_⟩, ?_, ⟨⟨?_, ?_, ?_⟩, ?_, ?_, fun z => ?_, hC M M2 g8 (fun c hc => CC c (by omega) (by omega) (by omega) (by omega) (by omega) (by omega))⟩⟩
        · show ∀ j : Nat, Int32.ofInt (M2 0 j) = xs j
          rw [CC 0 (by decide) (by decide) (by decide) (by decide) (by decide) (by decide)]
          exact s2
        · show nx ≤ 265 + 5 * (k + 1)
          omega
        · show zl ≤ 2656208 + 5000 * (k + 1)
          omega
        · show 0 ≤ M2 168 1 ∧ M2 168 1 ≤ 16384
          rw [w3]
          show (0 : Int) ≤ 0 ∧ (0 : Int) ≤ 16384
          omega
        · show M2 4 1 = M2 168 1
          rw [w4 4 (by decide) (by decide), w3]
          rfl
        · show sl (M2 5) 0 (M2 168 1).toNat = sl (M2 169) 0 (M2 168 1).toNat
          rw [w3]
          rfl
        · show M2 3 5 % 2 = M2 168 2 % 2
          rw [C3, w3]
          rfl
        · show M2 168 2 % 2 ≠ 0 → _
          rw [w3]
          exact fun q => absurd rfl q
        · show 0 ≤ M2 168 4 ∧ M2 168 4 ≤ 16384
          rw [L168 4 (by omega) (by omega) (by omega) (by omega)]
          exact ho.1
        · show M2 6 1 = M2 168 4
          rw [L168 4 (by omega) (by omega) (by omega) (by omega), CC 6 (by decide) (by decide) (by decide) (by decide) (by decide) (by decide)]
          exact ho.2.1
        · show sl (M2 7) 0 (M2 168 4).toNat = sl (M2 170) 0 (M2 168 4).toNat
          rw [L168 4 (by omega) (by omega) (by omega) (by omega), CC 7 (by decide) (by decide) (by decide) (by decide) (by decide) (by decide), CC 170 (by decide) (by decide) (by decide) (by decide) (by decide) (by decide)]
          exact ho.2.2
        · exact treeR_same hT (fun c hc => CC c (by omega) (by omega) (by omega) (by omega) (by omega) (by omega)) (fun i i1 i2 => L168 i (by omega) (by omega) (by omega) (by omega))
        · show 0 ≤ M2 98 1 ∧ M2 98 1 ≤ 131072
          omega
        · show M2 98 1 = M2 168 59
          omega
        · show sl (M2 99) 0 (M2 168 59).toNat = sl (M2 211) 0 (M2 168 59).toNat
          rw [e59, C99]
          refine sl_congr _ _ _ (fun j hj => ?_)
          unfold cpf
          by_cases e : n ≤ (0 : Int) + j ∧ (0 : Int) + j < n + M 4 1
          · rw [if_pos e]
            have z1 := w1 (0 + (j : Int) - n) (by omega) (by omega)
            rw [show n + (0 + (j : Int) - n) = 0 + j by omega] at z1
            rw [z1]
            have z2 := TB (0 + (j : Int) - n).toNat (by omega)
            rw [show ((0 + (j : Int) - n).toNat : Int) = 0 + (j : Int) - n by omega] at z2
            rw [z2]
            congr 2
            omega
          · rw [if_neg e, w2 _ (by omega)]
            exact GB j (by omega)
        · show M2 3 7 = M2 168 90
          rw [C3, ur_ne (by omega), ur_ne (by omega), L168 90 (by omega) (by omega) (by omega) (by omega)]
          exact g5
        · show M2 3 6 % 2 = M2 168 91 % 2
          rw [C3, ur_ne (by omega), ur_at, w3, ur_at]
        · have z2 : M2 3 6 % 2 ≠ 0 := z
          rw [C3, ur_ne (by omega), ur_at] at z2
          exact absurd rfl z2
end KEEP
