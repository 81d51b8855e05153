/-! MOUNTING: all inodes and exports; the reference -/
def miF (M M2 : FM) : Prop := ∀ c : Nat, c ≠ 259 → c ≠ 260 → M2 c = M c
def inX (g : Int → Int) (N B ids F n xl : Int) (x : Int → Int) (S : List Int) (pl h : Int → Int) : Prop := inS g N B ids F n = some (pl, h) ∧ (xl ≠ -1 → xpP x S n pl)
section MNODES2
variable {d nx zl : Nat} {K : Option TV → FH → Prop} {sh : Nat → Option Shp} {M : FM} {g : Int → Int} {N B ids F n : Int} {S : List Int}
theorem ndM_to {M M2 : FM} (h : ndM M g N B ids F) (h1 : M2 238 = M 238) (h2 : M2 241 = M 241) (h3 : M2 168 = M 168) : ndM M2 g N B ids F := by
  unfold ndM
  rw [h1, h2, h3]
  exact h
theorem readReference_Y {q : Int} (hst : ∀ i : Int, 0 ≤ i → i < S.length → M 239 i = lf S i ∧ 0 ≤ lf S i ∧ lf S i ≤ 131072) (hS : S.length ≤ 8) (hq : 0 ≤ q ∧ q < 8192 * S.length) (k : K (some (tj (65536 * lf S (q / 8192) + q % 8192))) (sh, M, nx, zl)) : fm_Y (d + 1) 352 [.ref 168, .int (Int32.ofInt q)] (sh, M, nx, zl) K := by
  obtain ⟨e1, e2, e3⟩ := hst (q / 8192) (by omega) (by omega)
  refine m352 [fx 168, ti q] ?_
  refine ⟨by omega, ?_⟩
  refine ⟨by omega, ?_⟩
  rw [e1]
  refine ⟨by omega, ?_⟩
  refine ⟨by omega, ?_⟩
  refine ⟨by omega, ?_⟩
  exact k
theorem areInodes_Y {x : Int → Int} {xl : Int} (hM : ndM M g N B ids F) (hn : M 168 92 = n) (hn2 : 1 ≤ n ∧ n ≤ 4096) (hxl : M 168 101 = xl) (hxl2 : -9223372036854775808 ≤ xl ∧ xl ≤ 9223372036854775807) (hx : xl ≠ -1 → agr (M 253) x (8 * n)) (hst : ∀ i : Int, 0 ≤ i → i < S.length → M 239 i = lf S i ∧ 0 ≤ lf S i ∧ lf S i ≤ 131072) (hS : S.length ≤ 8) (hNS : N ≤ 8192 * S.length)
    (k0 : ∀ M2 : FM, miF M M2 → (∀ pl h : Int → Int, ¬ inX g N B ids F n xl x S pl h) → K (some (ti 0)) (sh, M2, nx, zl))
    (k1 : ∀ (M2 : FM) (pl h : Int → Int), miF M M2 → inX g N B ids F n xl x S pl h → inV g N B ids F n pl h → (∀ j : Int, 1 ≤ j → j ≤ n → M2 259 j = pl j) → (∀ y : Int, 0 ≤ y → y < 65536 → M2 260 y = h y) → K (some (ti 1)) (sh, M2, nx, zl)) : fm_Y (d + 6) 342 [.ref 168] (sh, M, nx, zl) K := by
  have hNr := hM.1.2.2
  have hBr := hM.2.1.2
  have fix : ∀ M1 : FM, miF M M1 → ndM M1 g N B ids F ∧ M1 168 = M 168 ∧ M1 239 = M 239 ∧ M1 253 = M 253 ∧ M1 238 = M 238 := fun M1 h => ⟨ndM_to hM (h 238 (by omega) (by omega)) (h 241 (by omega) (by omega)) (h 168 (by omega) (by omega)), h 168 (by omega) (by omega), h 239 (by omega) (by omega), h 253 (by omega) (by omega), h 238 (by omega) (by omega)⟩
  refine m342 [fx 168] ?_
  have X158 : ∀ (M1 : FM) (p c j : Int) (y5 : Option TV), miF M M1 → (1 ≤ j ∧ j ≤ 5000) → (∀ pl h : Int → Int, ¬ inX g N B ids F n xl x S pl h) → fm_X (d + 5) kd342 158 [some (fx 168), some (ti p), some (ti c), some (ti 0), some (ti j), y5] [] (sh, M1, nx, zl) K := by
    intro M1 p c j y5 hF hj hno
    obtain ⟨-, e168, -, -, -⟩ := fix M1 hF
    have e92 : M1 168 92 = n := by rw [e168]; exact hn
    refine s342_158 (d + 5) K _ _ _ ?_
    exact ⟨by omega, fun _ => ⟨Or.inl rfl, k0 M1 hF hno⟩, fun _ => ⟨by omega, fun _ => ⟨Or.inl rfl, k0 M1 hF hno⟩, fun q => absurd rfl q⟩⟩
  -- the exports
  have L158 : ∀ (M1 : FM) (p c : Int) (pl h : Int → Int), miF M M1 → inS g N B ids F n = some (pl, h) → inV g N B ids F n pl h → (∀ j : Int, 1 ≤ j → j ≤ n → M1 259 j = pl j) → (∀ y : Int, 0 ≤ y → y < 65536 → M1 260 y = h y) → ∀ (G : Nat) (j : Int) (y5 : Option TV), (n + 1 - j).toNat < G → 1 ≤ j → j ≤ n + 1 → (xl ≠ -1 → ∀ i : Int, 1 ≤ i → i < j → s64 (le x (8 * i - 8) 8) = 65536 * lf S (pl i / 8192) + pl i % 8192) → fm_X (d + 5) kd342 158 [some (fx 168), some (ti p), some (ti c), some (ti 1), some (ti j), y5] [] (sh, M1, nx, zl) K := by
    intro M1 p c pl h hF hin hv h9 h10 G
    obtain ⟨hM1, e168, e239, e253, -⟩ := fix M1 hF
    have e92 : M1 168 92 = n := by rw [e168]; exact hn
    have e101 : M1 168 101 = xl := by rw [e168]; exact hxl
    induction G with
    | zero => intro j y5 q; omega
    | succ G ih =>
      intro j y5 q1 q2 q3 q4
      refine s342_158 (d + 5) K _ _ _ ?_
      refine ⟨by omega, fun w => ⟨Or.inr rfl, k1 M1 pl h hF ⟨hin, fun e i i0 i1 => q4 e i i0 (by omega)⟩ hv h9 h10⟩, fun w => ?_⟩
      refine ⟨by omega, fun w => by omega, fun _ => ?_⟩
      refine ⟨by omega, fun w2 => ⟨Or.inr rfl, k1 M1 pl h hF ⟨hin, fun e => absurd (e101.symm.trans w2) e⟩ hv h9 h10⟩, fun w2 => ?_⟩
      have hne : xl ≠ -1 := fun e => w2 (e101.trans e)
      refine n8_Y (rr250 sh).1.2.1 (by omega) (by rw [e253]; exact hx hne) (by omega) (by omega) (fun l8 => ?_)
      refine ⟨by omega, ?_⟩
      rw [h9 j (by omega) (by omega)]
      obtain ⟨p1, p2, p3, p4⟩ := hv.1 j (by omega) (by omega)
      have rr := (hst (pl j / 8192) (by omega) (by omega)).2
      refine readReference_Y (S := S) (by rw [e239]; exact hst) hS (by omega) ?_
      refine ⟨by omega, fun w3 => ?_, fun w3 => ?_⟩
      · refine X158 M1 p c (j + 1) y5 hF (by omega) (fun pl2 h2 hx2 => ?_)
        obtain ⟨z1, z2⟩ := hx2
        rw [hin] at z1
        injection z1 with z1
        injection z1 with z3 z4
        have := z2 hne j q2 (by omega)
        rw [← z3] at this
        exact w3 this
      · refine ih (j + 1) _ (by omega) (by omega) (by omega) (fun e i i0 i1 => ?_)
        by_cases c : i < j
        · exact q4 e i i0 c
        · rw [show i = j by omega]
          exact w3
  have NOX : inS g N B ids F n = none → ∀ pl h : Int → Int, ¬ inX g N B ids F n xl x S pl h := by
    intro e pl h q
    have := q.1
    rw [e] at this
    cases this
  -- one inode behind the other
  have L48 : ∀ (G : Nat) (p c : Int) (pl h : Int → Int) (M1 : FM) (y3 y4 y5 : Option TV), N - p < G → 0 ≤ p → p ≤ N → 0 ≤ c → inS g N B ids F n = inG g N B ids F n G p c pl h → ivI g N B ids F n p c pl h → miF M M1 → (∀ j : Int, 1 ≤ j → j ≤ n → M1 259 j = pl j) → (∀ y : Int, 0 ≤ y → y < 65536 → M1 260 y = h y) → (∀ j : Int, -1 ≤ pl j) → fm_X (d + 5) kd342 48 [some (fx 168), some (ti p), some (ti c), y3, y4, y5] [] (sh, M1, nx, zl) K := by
    intro G
    induction G with
    | zero => intro p c pl h M1 y3 y4 y5 h1; omega
    | succ G ih =>
      intro p c pl h M1 y3 y4 y5 h1 h2 h3 h4 h6 h7 h8 h9 h10 h11
      have er : inG g N B ids F n (G + 1) p c pl h = if N ≤ p then (if c = n then some (pl, h) else none) else cif (0 ≤ iE g N B ids F p ∧ (1 ≤ le g (p + 12) 4 ∧ le g (p + 12) 4 ≤ n) ∧ pl (le g (p + 12) 4) < 0) (inG g N B ids F n G (iE g N B ids F p) (c + 1) (ur pl (le g (p + 12) 4) p) (ur h p (le g (p + 12) 4))) none := rfl
      rw [er] at h6
      obtain ⟨hM1, e168, e239, e253, e238⟩ := fix M1 h8
      have e92 : M1 168 92 = n := by rw [e168]; exact hn
      have q1 : M1 238 1 = N := hM1.1.1
      have cr := cnS_le pl n.toNat
      rw [h7.2.2] at cr
      refine s342_48 (d + 5) K _ _ _ ?_
      refine ⟨by omega, fun w => ?_, fun w => ?_⟩
      · rw [if_pos (by omega)] at h6
        refine ⟨by omega, fun w2 => ?_, fun w2 => ?_⟩
        · rw [if_neg (by omega)] at h6
          exact X158 M1 p c 1 _ h8 (by omega) (NOX h6)
        · rw [if_pos (by omega)] at h6
          have ec : c = n := by omega
          rw [ec] at h7
          exact L158 M1 p c pl h h8 h6 (iv_end (by omega) h3 h7) h9 h10 _ 1 _ (Nat.lt_succ_self _) (by omega) (by omega) (fun _ i i0 i1 => by omega)
      rw [if_neg (by omega)] at h6
      have NO : ¬ (0 ≤ iE g N B ids F p ∧ (1 ≤ le g (p + 12) 4 ∧ le g (p + 12) 4 ≤ n) ∧ pl (le g (p + 12) 4) < 0) → K (some (ti 0)) (sh, M1, nx, zl) := by
        intro q
        rw [cif_neg q] at h6
        exact k0 M1 h8 (NOX h6)
      refine inodeEnd_Y hM1 (by omega) ?_
      rcases iE_r (g := g) (N := N) (ids := ids) (F := F) hBr.1 h2 with hE | ⟨hE1, hE2, hE3, -⟩
      · refine ⟨by omega, fun q => by omega, fun q => ?_⟩
        exact ⟨by omega, fun _ => ⟨Or.inl rfl, NO (fun z => by omega)⟩, fun z => by omega⟩
      · have h16 := hE3.1
        refine ⟨by omega, fun q => ?_, fun q => by omega⟩
        refine v4_Y (p + 12) hM1 rfl (by omega) (fun l => ?_)
        refine ⟨by omega, fun w1 => ⟨Or.inl rfl, NO (fun z => by omega)⟩, fun w1 => ?_⟩
        refine ⟨by omega, ?_⟩
        refine ⟨by omega, fun w2 => ⟨Or.inl rfl, NO (fun z => by omega)⟩, fun w2 => ?_⟩
        obtain ⟨m, gm⟩ : ∃ m : Int, m = le g (p + 12) 4 := ⟨_, rfl⟩
        rw [← gm] at NO h6 l ⊢
        have e259 := h9 m (by omega) (by omega)
        have r259 : -1 ≤ pl m ∧ pl m ≤ 65536 := by
          have a := h11 m
          have b := h7.1 m
          omega
        refine ⟨by omega, ?_⟩
        refine ⟨by omega, fun w3 => ?_, fun w3 => ⟨Or.inl rfl, NO (fun z => by omega)⟩⟩
        refine ⟨by omega, ?_⟩
        refine ⟨by omega, ?_⟩
        rw [cif_pos ⟨by omega, by omega, by omega⟩] at h6
        obtain ⟨R, gR⟩ : ∃ R : FM, R = pq (pq M1 259 m p) 260 p m := ⟨_, rfl⟩
        have TL : fm_X (d + 5) kd342 48 [some (fx 168), some (ti (iE g N B ids F p)), some (ti (c + 1)), some (ti (iE g N B ids F p)), some (tj m), none] [] (sh, R, nx, zl) K := by
          refine ih _ _ (ur pl m p) (ur h p m) R _ _ _ (by omega) (by omega) (by omega) (by omega) h6 (iv_step hBr.1 h2 h7 (by omega) (by omega) (by omega)) (fun c c1 c2 => ?_) (fun j j1 j2 => ?_) (fun y y1 y2 => ?_) (fun j => by have := h11 j; unfold ur; split <;> omega)
          · rw [gR, pq_o _ _ _ c2, pq_o _ _ _ c1]
            exact h8 c c1 c2
          · rw [gR, pq_o _ _ _ (by omega)]
            by_cases e : j = m
            · rw [e, pq_at, ur_at]
            · rw [pq_ne _ _ _ _ e, ur_ne e]
              exact h9 j j1 j2
          · rw [gR]
            by_cases e : y = p
            · rw [e, pq_at, ur_at]
            · rw [pq_ne _ _ _ _ e, ur_ne e, pq_o _ _ _ (by omega)]
              exact h10 y y1 y2
        rw [gR] at TL
        exact TL
  -- nothing is told yet
  have L25 : ∀ (G : Nat) (j : Int) (M1 : FM) (y2 y3 y4 y5 : Option TV), (65536 - j).toNat < G → 0 ≤ j → j ≤ 65536 → miF M M1 → (∀ i : Int, 1 ≤ i → i ≤ n → M1 259 i = -1) → (∀ i : Int, 0 ≤ i → i < j → M1 260 i = 0) → fm_X (d + 5) kd342 25 [some (fx 168), some (ti j), y2, y3, y4, y5] [] (sh, M1, nx, zl) K := by
    intro G
    induction G with
    | zero => intro j M1 y2 y3 y4 y5 h; omega
    | succ G ih =>
      intro j M1 y2 y3 y4 y5 h1 h2 h3 h4 h5 h6
      refine s342_25 (d + 5) K _ _ _ ?_
      refine ⟨by omega, fun w => ?_, fun w => ?_⟩
      · exact L48 _ 0 0 (fun _ => -1) (fun _ => 0) M1 _ _ _ (by omega) (by omega) (by omega) (by omega) rfl (iv_0 g N B ids F n) h4 h5 (fun i i1 i2 => h6 i i1 (by omega)) (fun j => by show (-1 : Int) ≤ -1; omega)
      · refine ⟨by omega, ?_⟩
        refine ih (j + 1) _ _ _ _ _ (by omega) (by omega) (by omega) (fun c c1 c2 => ?_) (fun i i1 i2 => ?_) (fun i i1 i2 => ?_)
        · rw [um_ne c2]
          exact h4 c c1 c2
        · rw [um_ne (by omega)]
          exact h5 i i1 i2
        · rw [um_at]
          unfold ur
          split
          · rfl
          · exact h6 i i1 (by omega)
  have L2 : ∀ (G : Nat) (j : Int) (M1 : FM) (y2 y3 y4 y5 : Option TV), (n + 1 - j).toNat < G → 0 ≤ j → j ≤ n + 1 → miF M M1 → (∀ i : Int, 0 ≤ i → i < j → M1 259 i = -1) → fm_X (d + 5) kd342 2 [some (fx 168), some (ti j), y2, y3, y4, y5] [] (sh, M1, nx, zl) K := by
    intro G
    induction G with
    | zero => intro j M1 y2 y3 y4 y5 h; omega
    | succ G ih =>
      intro j M1 y2 y3 y4 y5 h1 h2 h3 h4 h5
      obtain ⟨-, e168, -, -, -⟩ := fix M1 h4
      have e92 : M1 168 92 = n := by rw [e168]; exact hn
      refine s342_2 (d + 5) K _ _ _ ?_
      refine ⟨by omega, fun w => ?_, fun w => ?_⟩
      · exact L25 _ 0 M1 _ _ _ _ (Nat.lt_succ_self _) (by omega) (by omega) h4 (fun i i1 i2 => h5 i (by omega) (by omega)) (fun i i1 i2 => by omega)
      · refine ⟨by omega, ?_⟩
        refine ih (j + 1) _ _ _ _ _ (by omega) (by omega) (by omega) (fun c c1 c2 => ?_) (fun i i1 i2 => ?_)
        · rw [um_ne c1]
          exact h4 c c1 c2
        · rw [um_at]
          unfold ur
          split
          · rfl
          · exact h5 i i1 (by omega)
  exact L2 _ 0 M _ _ _ _ (Nat.lt_succ_self _) (by omega) (by omega) (fun c _ _ => rfl) (fun i i1 i2 => by omega)
end MNODES2
