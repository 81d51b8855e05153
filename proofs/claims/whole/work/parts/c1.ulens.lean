/-! UNPACKING, the class: takeTellers, takeLengths, takeCodes -/
theorem bS_rng (f : Int → Int) (E : Int) (n : Nat) (st : St) : 0 ≤ (bS f E n st).1 ∧ (bS f E n st).1 < 2 ^ n := by
  have h := two_pos n
  cases st with
  | none =>
    show (0 : Int) ≤ 0 ∧ (0 : Int) < 2 ^ n
    omega
  | some q =>
    obtain ⟨p, o⟩ := q
    by_cases e : p + n ≤ E
    · rw [bS_pos e]
      exact bv_rng f p n
    · rw [bS_neg e]
      show (0 : Int) ≤ 0 ∧ (0 : Int) < 2 ^ n
      omega
def tlP (f : Int → Int) (E t p1 i : Int) (r : Int → Int) : Option (Int × Int × Int) :=
  if t < 16 then some (t, 1, p1) else if t = 16 then (if i = 0 then none else if p1 + 2 ≤ E then some (r (i - 1), 3 + bv f p1 2, p1 + 2) else none) else if t = 17 then (if p1 + 3 ≤ E then some (0, 3 + bv f p1 3, p1 + 3) else none) else (if p1 + 7 ≤ E then some (0, 11 + bv f p1 7, p1 + 7) else none)
def fillU (r : Int → Int) (i n v : Int) : Int → Int := fun j => if i ≤ j ∧ j < i + n then v else r j
def tlG (f : Int → Int) (E : Int) (tl : Int → Int) (all : Int) : Nat → Int → Int → (Int → Int) → Option (Int × (Int → Int))
  | 0, _, _, _ => none
  | g + 1, p, i, r => if all ≤ i then some (p, r) else match sy f E tl 19 p with
    | none => none
    | some (t, p1) => match tlP f E t p1 i r with
      | none => none
      | some (v, n, p2) => if i + n ≤ all then tlG f E tl all g p2 (i + n) (fillU r i n v) else none
section ULENS
variable {d nx zl : Nat} {K : Option TV → FH → Prop} {sh : Nat → Option Shp} {M0 M : FM} {sc mc nS nM : Nat}
theorem takeTellers_Y {p : Int} {o : List Int} (hC : uC sh M0 sc mc nS nM) (hTel : ∀ i : Int, 0 ≤ i → i < 19 → M0 1 i = tel i) (hm1 : mc ≠ 1) (hR : uR M0 M mc (some (p, o)))
    (k0 : ∀ M2 : FM, ¬ teK (M0 sc) (M0 129 2) p → uK M0 M2 mc → K (some (ti 0)) (sh, M2, nx, zl))
    (k1 : ∀ M2 : FM, teK (M0 sc) (M0 129 2) p → uR M0 M2 mc (some (p + 14 + 3 * teC (M0 sc) p, o)) → M2 129 15 = teH (M0 sc) p → M2 129 16 = teD (M0 sc) p → cdV M2 150 145 (tlS (M0 sc) (p + 14) (teC (M0 sc) p)) 19 → K (some (ti 1)) (sh, M2, nx, zl)) : fm_Y (d + 2) 150 [.ref 129] (sh, M, nx, zl) K := by
  have hC0 := hC
  obtain ⟨⟨⟨u1, u2⟩, u3, u4⟩, ⟨u5, u6, u7, u8⟩, ⟨u9, u10⟩, ⟨u11, u12⟩, u13, u14⟩ := hC
  have hmc : mc ≠ 129 := by omega
  have p0 := hR.2.2.1.1
  refine m150 [fx 129] ?_
  refine bits_Y (n := 5) hC0 hR (by omega) (fun M1 t1 t2 => ?_)
  have h1 := bS_rng (M0 sc) (M0 129 2) 5 (some (p, o))
  have e32 : (2 : Int) ^ 5 = 32 := by decide
  have e16 : (2 : Int) ^ 4 = 16 := by decide
  obtain ⟨r1, g1⟩ : ∃ r1, r1 = bS (M0 sc) (M0 129 2) 5 (some (p, o)) := ⟨_, rfl⟩
  rw [← g1] at t1 h1 ⊢
  have s1 := uR_n (x := r1.1 + 257) (i := 15) hmc t1 (Or.inl rfl)
  refine bits_Y (n := 5) hC0 s1 (by omega) (fun M2 t3 t4 => ?_)
  have h2 := bS_rng (M0 sc) (M0 129 2) 5 r1.2
  obtain ⟨r2, g2⟩ : ∃ r2, r2 = bS (M0 sc) (M0 129 2) 5 r1.2 := ⟨_, rfl⟩
  rw [← g2] at t3 h2 ⊢
  have s2 := uR_n (x := r2.1 + 1) (i := 16) hmc t3 (Or.inr rfl)
  refine bits_Y (n := 4) hC0 s2 (by omega) (fun M3 t5 t6 => ?_)
  have h3 := bS_rng (M0 sc) (M0 129 2) 4 r2.2
  obtain ⟨r3, g3⟩ : ∃ r3, r3 = bS (M0 sc) (M0 129 2) 4 r2.2 := ⟨_, rfl⟩
  rw [← g3] at t5 h3 ⊢
  have e15 : M3 129 15 = r1.1 + 257 := by
    rw [t6.2 15 (by omega) (by omega), um_at, ur_ne (by omega), t4.2 15 (by omega) (by omega), um_at, ur_at]
  have e16b : M3 129 16 = r2.1 + 1 := by
    rw [t6.2 16 (by omega) (by omega), um_at, ur_at]
  by_cases h14 : p + 14 ≤ M0 129 2
  · have g1' : r1 = (bv (M0 sc) p 5, some (p + 5, o)) := by rw [g1]; exact bS_pos (by omega)
    have g2' : r2 = (bv (M0 sc) (p + 5) 5, some (p + 10, o)) := by
      rw [g2, g1']
      have z : bS (M0 sc) (M0 129 2) 5 (some (p + 5, o)) = (bv (M0 sc) (p + 5) 5, some (p + 5 + (5 : Nat), o)) := bS_pos (by omega)
      rw [show p + 5 + ((5 : Nat) : Int) = p + 10 by omega] at z
      exact z
    have g3' : r3 = (bv (M0 sc) (p + 10) 4, some (p + 14, o)) := by
      rw [g3, g2']
      have z : bS (M0 sc) (M0 129 2) 4 (some (p + 10, o)) = (bv (M0 sc) (p + 10) 4, some (p + 10 + (4 : Nat), o)) := bS_pos (by omega)
      rw [show p + 10 + ((4 : Nat) : Int) = p + 14 by omega] at z
      exact z
    have ec : r3.1 + 4 = teC (M0 sc) p := by rw [g3']; rfl
    have eh : r1.1 + 257 = teH (M0 sc) p := by rw [g1']; rfl
    have ed : r2.1 + 1 = teD (M0 sc) p := by rw [g2']; rfl
    have t5' : uR M0 M3 mc (some (p + 14, o)) := by
      rw [g3'] at t5
      exact t5
    have zz := te34 (d := d) (nx := nx) (zl := zl) (K := K) (p := p + 14) (c := r3.1 + 4) (h := r1.1 + 257) (e := r2.1 + 1) (o := o) hC0 hTel hm1 (by omega) (by omega) (by omega) (by omega) (fun M4 x1 x2 => k0 M4 (fun z => x1 (by rw [ec, eh, ed]; exact z)) x2) (fun M4 x1 x2 x3 x4 x5 x6 x7 x8 => by
      rw [ec] at x1 x4 x5 x8
      rw [eh] at x2 x6
      rw [ed] at x3 x7
      exact k1 M4 ⟨x1, x2, x3, x4⟩ x5 x6 x7 x8) 19 0 M3 (M3 165) rfl (by rw [if_pos (show ((0 : Nat) : Int) < r3.1 + 4 by omega)]; show uR M0 M3 mc (some (p + 14 + 3 * 0, o)); rw [show p + 14 + 3 * 0 = p + 14 by omega]; exact t5') (fun t _ _ => rfl) e15 e16b
    exact zz
  · have hn : r3.2 = none := by
      by_cases a : p + 5 ≤ M0 129 2
      · have g1' : r1.2 = some (p + 5, o) := by rw [g1, bS_pos (by omega)]; rfl
        by_cases b : p + 10 ≤ M0 129 2
        · have g2' : r2.2 = some (p + 10, o) := by
            rw [g2, g1', bS_pos (by omega)]
            show some (p + 5 + ((5 : Nat) : Int), o) = _
            rw [show p + 5 + ((5 : Nat) : Int) = p + 10 by omega]
          rw [g3, g2', bS_neg (by omega)]
        · have g2' : r2.2 = none := by rw [g2, g1', bS_neg (by omega)]
          rw [g3, g2']
          rfl
      · have g1' : r1.2 = none := by rw [g1, bS_neg (by omega)]
        rw [g3, g2, g1']
        rfl
    rw [hn] at t5
    have hcc : ¬ teK (M0 sc) (M0 129 2) p := by
      intro z
      have z1 := z.1
      unfold teC at z1
      have z2 := (bv_rng (M0 sc) (p + 10) 4).1
      omega
    exact te34X (d := d) (c := r3.1 + 4) hC0 hTel hm1 (fun M4 h4 => k0 M4 hcc h4) (by omega) 19 0 M3 rfl t5
theorem takeLengths_Y {p h e : Int} {o : List Int} {G : Nat} {tl : Int → Int} (hC : uC sh M0 sc mc nS nM) (hm : mc ≠ 150 ∧ mc ≠ 145 ∧ mc ≠ 165) (hR : uR M0 M mc (some (p, o))) (h15 : M 129 15 = h) (h16 : M 129 16 = e) (hh : 0 ≤ h ∧ h ≤ 286) (he : 1 ≤ e ∧ e ≤ 30) (hV : cdV M 150 145 tl 19) (hG : M0 129 2 - p < G)
    (k0 : ∀ M2 : FM, tlG (M0 sc) (M0 129 2) tl (h + e) G p 0 (fun _ => 0) = none → uK M0 M2 mc → K (some (ti 0)) (sh, M2, nx, zl))
    (k1 : ∀ (M2 : FM) (p2 : Int) (r : Int → Int), tlG (M0 sc) (M0 129 2) tl (h + e) G p 0 (fun _ => 0) = some (p2, r) → uR M0 M2 mc (some (p2, o)) → (∀ j : Int, 0 ≤ j → j < h + e → M2 165 j = r j ∧ 0 ≤ r j ∧ r j ≤ 15) → M2 129 15 = h → M2 129 16 = e → K (some (ti 1)) (sh, M2, nx, zl)) : fm_Y (d + 2) 151 [.ref 129] (sh, M, nx, zl) K := by
  have hC0 := hC
  obtain ⟨⟨⟨u1, u2⟩, u3, u4⟩, ⟨u5, u6, u7, u8⟩, ⟨u9, u10⟩, ⟨u11, u12⟩, u13, u14⟩ := hC
  have hmc : mc ≠ 129 := by omega
  refine m151 [fx 129] ?_
  have L : ∀ (g : Nat) (q i kk : Int) (r : Int → Int) (M1 : FM) (y4 y5 y6 y7 : Option TV), M0 129 2 - q < g → 0 ≤ kk → kk ≤ i → i ≤ h + e → tlG (M0 sc) (M0 129 2) tl (h + e) G p 0 (fun _ => 0) = tlG (M0 sc) (M0 129 2) tl (h + e) g q i r → uR M0 M1 mc (some (q, o)) → (∀ j : Int, 0 ≤ j → j < i → M1 165 j = r j ∧ 0 ≤ r j ∧ r j ≤ 15) → M1 129 15 = h → M1 129 16 = e → cdV M1 150 145 tl 19 → fm_X (d + 1) kd151 14 [some (fx 129), some (ti (h + e)), some (ti i), some (ti kk), y4, y5, y6, y7] [] (sh, M1, nx, zl) K := by
    intro g
    induction g with
    | zero =>
      intro q i kk r M1 y4 y5 y6 y7 a1 a2 a3 a4 a5 a6 a7 a8 a9 a10
      have := a6.2.2.1
      omega
    | succ g ih =>
      intro q i kk r M1 y4 y5 y6 y7 a1 a2 a3 a4 a5 a6 a7 a8 a9 a10
      refine s151_14 (d + 1) K _ _ _ ?_
      have DONE : h + e ≤ i → K (some (ti 1)) (sh, M1, nx, zl) := by
        intro hd
        have ec : tlG (M0 sc) (M0 129 2) tl (h + e) (g + 1) q i r = some (q, r) := if_pos hd
        have ei : i = h + e := by omega
        rw [ei] at a7
        exact k1 M1 q r (a5.trans ec) a6 a7 a8 a9
      refine ⟨by omega, fun w => ⟨Or.inr rfl, DONE (by omega)⟩, fun w => ?_⟩
      refine ⟨by omega, fun w2 => ⟨Or.inr rfl, DONE (by omega)⟩, fun w2 => ?_⟩
      refine symbol_Y hC0 (cd144 sh) (by omega) a10 a6 (fun M2 t1 t2 => ?_)
      -- behind the reading of what a teller says
      have E121 : ∀ (M3 : FM) (st : St) (v n kt : Int), uR M0 M3 mc st → uk2 M1 M3 → (-1 ≤ v ∧ v ≤ 15) → (1 ≤ n ∧ n ≤ 200) → (∀ p2 : Int, st = some (p2, o) → 0 ≤ v → i + n ≤ h + e → q < p2 ∧ tlG (M0 sc) (M0 129 2) tl (h + e) (g + 1) q i r = tlG (M0 sc) (M0 129 2) tl (h + e) g p2 (i + n) (fillU r i n v)) → (∀ p2 o2, st = some (p2, o2) → o2 = o) → (¬ (st ≠ none ∧ 0 ≤ v ∧ i + n ≤ h + e) → tlG (M0 sc) (M0 129 2) tl (h + e) (g + 1) q i r = none) → b151_121 (d + 1) (fW (d + 1) kd151 K) K [some (fx 129), some (ti (h + e)), some (ti i), some (ti kk), some (ti kt), some (ti v), some (ti n), y7] [] (sh, M3, nx, zl) := by
        intro M3 st v n kt b1 b2 b3 b4 b5 b6 b7
        cases st with
        | none =>
          have hf := b1.2
          refine ⟨by omega, fun w3 => ?_, fun w3 => by omega⟩
          exact ⟨Or.inl rfl, k0 M3 (a5.trans (b7 (fun z => z.1 rfl))) b1.1⟩
        | some s =>
          obtain ⟨p2, o2⟩ := s
          have eo := b6 p2 o2 rfl
          subst eo
          have hf := b1.2.1.2.1
          refine ⟨by omega, fun w3 => by omega, fun w3 => ?_⟩
          refine ⟨by omega, fun w4 => ⟨Or.inl rfl, k0 M3 (a5.trans (b7 (fun z => by omega))) b1.1⟩, fun w4 => ?_⟩
          refine ⟨by omega, fun w5 => ?_, fun w5 => ⟨Or.inl rfl, k0 M3 (a5.trans (b7 (fun z => by omega))) b1.1⟩⟩
          obtain ⟨b8, b9⟩ := b5 p2 rfl (by omega) (by omega)
          have F : ∀ (N : Nat) (x : Int) (M4 : FM), (i + n - x).toNat < N → i ≤ x → x ≤ i + n → uR M0 M4 mc (some (p2, o2)) → (∀ j : Int, 0 ≤ j → j < i → M4 165 j = M3 165 j) → (∀ j : Int, i ≤ j → j < x → M4 165 j = v) → (∀ c : Nat, c ≠ 165 → M4 c = M3 c) → fm_X (d + 1) kd151 149 [some (fx 129), some (ti (h + e)), some (ti x), some (ti kk), some (ti kt), some (ti v), some (ti n), some (ti (i + n))] [] (sh, M4, nx, zl) K := by
            intro N
            induction N with
            | zero => intro x M4 c1; omega
            | succ N ihN =>
              intro x M4 c1 c2 c3 c4 c5 c6 c7
              refine s151_149 (d + 1) K _ _ _ ?_
              refine ⟨by omega, fun w6 => ?_, fun w6 => ?_⟩
              · have ex : x = i + n := by omega
                rw [ex]
                refine ih p2 (i + n) (kk + 1) (fillU r i n v) M4 _ _ _ _ (by omega) (by omega) (by omega) (by omega) (a5.trans b9) c4 (fun j j0 j1 => ?_) ?_ ?_ ?_
                · unfold fillU
                  by_cases ej : i ≤ j ∧ j < i + n
                  · rw [if_pos ej]
                    exact ⟨c6 j ej.1 (by omega), by omega, by omega⟩
                  · rw [if_neg ej, c5 j j0 (by omega), b2.1 165 (by decide)]
                    exact a7 j j0 (by omega)
                · rw [c7 129 (by decide), b2.2 15 (by omega) (by omega)]
                  exact a8
                · rw [c7 129 (by decide), b2.2 16 (by omega) (by omega)]
                  exact a9
                · exact cdV_to a10 (by rw [c7 150 (by decide), b2.1 150 (by decide)]) (by rw [c7 145 (by decide), b2.1 145 (by decide)])
              · refine ⟨by omega, ?_⟩
                refine ihN (x + 1) _ (by omega) (by omega) (by omega) (uR_up c4 (fun c hc => by rw [um_ne (by omega)]) (fun c _ hc => by rw [um_ne hc])) (fun j j0 j1 => ?_) (fun j j0 j1 => ?_) (fun c hc => by rw [um_ne hc]; exact c7 c hc)
                · rw [um_at, ur_ne (by omega)]
                  exact c5 j j0 j1
                · rw [um_at]
                  by_cases ej : j = x
                  · rw [ej, ur_at]
                  · rw [ur_ne ej]
                    exact c6 j j0 (by omega)
          exact F (n.toNat + 1) i M3 (by omega) (by omega) (by omega) b1 (fun _ _ _ => rfl) (fun j j0 j1 => by omega) (fun _ _ => rfl)
      cases hs : sy (M0 sc) (M0 129 2) tl 19 q with
      | none =>
        have ec : tlG (M0 sc) (M0 129 2) tl (h + e) (g + 1) q i r = none := by
          show (if h + e ≤ i then some (q, r) else match sy (M0 sc) (M0 129 2) tl 19 q with
            | none => none
            | some (t, p1) => _) = none
          rw [if_neg (by omega), hs]
        rw [sS_none hs] at t1
        rw [sS_none hs]
        refine ⟨by omega, fun w3 => ?_, fun w3 => by omega⟩
        refine ⟨by omega, fun w4 => ?_, fun w4 => by omega⟩
        refine ⟨by omega, fun w5 => ?_, fun w5 => by omega⟩
        exact E121 M2 none 0 1 0 t1 t2 (by omega) (by omega) (fun p2 z => by cases z) (fun p2 o2 z => by cases z) (fun _ => ec)
      | some tq =>
        obtain ⟨t, p1⟩ := tq
        have rs := sy_rng hs
        rw [sS_some hs] at t1
        rw [sS_some hs]
        dsimp only at t1 ⊢
        have ec : tlG (M0 sc) (M0 129 2) tl (h + e) (g + 1) q i r = match tlP (M0 sc) (M0 129 2) t p1 i r with
            | none => none
            | some (v, n, p2) => if i + n ≤ h + e then tlG (M0 sc) (M0 129 2) tl (h + e) g p2 (i + n) (fillU r i n v) else none := by
          show (if h + e ≤ i then some (q, r) else match sy (M0 sc) (M0 129 2) tl 19 q with
            | none => none
            | some (t, p1) => _) = _
          rw [if_neg (by omega), hs]
        refine ⟨by omega, fun w3 => ?_, fun w3 => ?_⟩
        · refine ⟨by omega, fun w4 => ?_, fun w4 => ?_⟩
          · refine ⟨by omega, fun w5 => ?_, fun w5 => ?_⟩
            · have ep : tlP (M0 sc) (M0 129 2) t p1 i r = some (t, 1, p1) := if_pos (by omega)
              rw [ep] at ec
              have ec' : tlG (M0 sc) (M0 129 2) tl (h + e) (g + 1) q i r = if i + 1 ≤ h + e then tlG (M0 sc) (M0 129 2) tl (h + e) g p1 (i + 1) (fillU r i 1 t) else none := ec
              refine E121 M2 (some (p1, o)) t 1 t t1 t2 (by omega) (by omega) (fun p2 z _ z2 => ?_) (fun p2 o2 z => ?_) (fun z => ?_)
              · injection z with z
                injection z with z3 z4
                rw [← z3]
                exact ⟨by omega, by rw [ec', if_pos z2]⟩
              · injection z with z
                injection z with z3 z4
                exact z4.symm
              · rw [ec', if_neg (fun z2 => z ⟨fun z5 => by (cases z5), by omega, z2⟩)]
            · have et : t = 18 := by omega
              refine bits_Y (n := 7) hC0 t1 (by omega) (fun M3 v1 v2 => ?_)
              have rb := bS_rng (M0 sc) (M0 129 2) 7 (some (p1, o))
              have e128 : (2 : Int) ^ 7 = 128 := by decide
              by_cases hin : p1 + 7 ≤ M0 129 2
              · have eb : bS (M0 sc) (M0 129 2) 7 (some (p1, o)) = (bv (M0 sc) p1 7, some (p1 + 7, o)) := bS_pos hin
                rw [eb] at v1 rb
                rw [eb]
                dsimp only at v1 rb ⊢
                have ep : tlP (M0 sc) (M0 129 2) t p1 i r = some (0, 11 + bv (M0 sc) p1 7, p1 + 7) := by
                  unfold tlP
                  rw [if_neg (by omega), if_neg (by omega), if_neg (by omega), if_pos hin]
                rw [ep] at ec
                have ec' : tlG (M0 sc) (M0 129 2) tl (h + e) (g + 1) q i r = if i + (11 + bv (M0 sc) p1 7) ≤ h + e then tlG (M0 sc) (M0 129 2) tl (h + e) g (p1 + 7) (i + (11 + bv (M0 sc) p1 7)) (fillU r i (11 + bv (M0 sc) p1 7) 0) else none := ec
                refine E121 M3 (some (p1 + 7, o)) 0 (11 + bv (M0 sc) p1 7) t v1 (uk2_t t2 v2) (by omega) (by omega) (fun p2 z _ z2 => ?_) (fun p2 o2 z => ?_) (fun z => ?_)
                · injection z with z
                  injection z with z3 z4
                  rw [← z3]
                  exact ⟨by omega, by rw [ec', if_pos z2]⟩
                · injection z with z
                  injection z with z3 z4
                  exact z4.symm
                · rw [ec', if_neg (fun z2 => z ⟨fun z5 => by (cases z5), by omega, z2⟩)]
              · have eb : bS (M0 sc) (M0 129 2) 7 (some (p1, o)) = (0, none) := bS_neg hin
                rw [eb] at v1
                rw [eb]
                have ep : tlP (M0 sc) (M0 129 2) t p1 i r = none := by
                  unfold tlP
                  rw [if_neg (by omega), if_neg (by omega), if_neg (by omega), if_neg hin]
                rw [ep] at ec
                exact E121 M3 none 0 (11 + 0) t v1 (uk2_t t2 v2) (by omega) (by omega) (fun p2 z => by cases z) (fun p2 o2 z => by cases z) (fun _ => ec)
          · have et : t = 17 := by omega
            refine bits_Y (n := 3) hC0 t1 (by omega) (fun M3 v1 v2 => ?_)
            have rb := bS_rng (M0 sc) (M0 129 2) 3 (some (p1, o))
            have e8 : (2 : Int) ^ 3 = 8 := by decide
            by_cases hin : p1 + 3 ≤ M0 129 2
            · have eb : bS (M0 sc) (M0 129 2) 3 (some (p1, o)) = (bv (M0 sc) p1 3, some (p1 + 3, o)) := bS_pos hin
              rw [eb] at v1 rb
              rw [eb]
              dsimp only at v1 rb ⊢
              have ep : tlP (M0 sc) (M0 129 2) t p1 i r = some (0, 3 + bv (M0 sc) p1 3, p1 + 3) := by
                unfold tlP
                rw [if_neg (by omega), if_neg (by omega), if_pos et, if_pos hin]
              rw [ep] at ec
              have ec' : tlG (M0 sc) (M0 129 2) tl (h + e) (g + 1) q i r = if i + (3 + bv (M0 sc) p1 3) ≤ h + e then tlG (M0 sc) (M0 129 2) tl (h + e) g (p1 + 3) (i + (3 + bv (M0 sc) p1 3)) (fillU r i (3 + bv (M0 sc) p1 3) 0) else none := ec
              refine E121 M3 (some (p1 + 3, o)) 0 (3 + bv (M0 sc) p1 3) t v1 (uk2_t t2 v2) (by omega) (by omega) (fun p2 z _ z2 => ?_) (fun p2 o2 z => ?_) (fun z => ?_)
              · injection z with z
                injection z with z3 z4
                rw [← z3]
                exact ⟨by omega, by rw [ec', if_pos z2]⟩
              · injection z with z
                injection z with z3 z4
                exact z4.symm
              · rw [ec', if_neg (fun z2 => z ⟨fun z5 => by (cases z5), by omega, z2⟩)]
            · have eb : bS (M0 sc) (M0 129 2) 3 (some (p1, o)) = (0, none) := bS_neg hin
              rw [eb] at v1
              rw [eb]
              have ep : tlP (M0 sc) (M0 129 2) t p1 i r = none := by
                unfold tlP
                rw [if_neg (by omega), if_neg (by omega), if_pos et, if_neg hin]
              rw [ep] at ec
              exact E121 M3 none 0 (3 + 0) t v1 (uk2_t t2 v2) (by omega) (by omega) (fun p2 z => by cases z) (fun p2 o2 z => by cases z) (fun _ => ec)
        · have et : t = 16 := by omega
          have B64 : ∀ v : Int, (i = 0 ∧ v = -1 ∨ i ≠ 0 ∧ v = r (i - 1)) → b151_64 (d + 1) (fW (d + 1) kd151 K) K [some (fx 129), some (ti (h + e)), some (ti i), some (ti kk), some (ti t), some (ti t), some (ti 1), y7] [ti v] (sh, M2, nx, zl) := by
            intro v hv
            have rv : -1 ≤ v ∧ v ≤ 15 := by
              rcases hv with ⟨_, hv⟩ | ⟨hi, hv⟩
              · omega
              · have := a7 (i - 1) (by omega) (by omega)
                omega
            refine bits_Y (n := 2) hC0 t1 (by omega) (fun M3 v1 v2 => ?_)
            have rb := bS_rng (M0 sc) (M0 129 2) 2 (some (p1, o))
            have e4 : (2 : Int) ^ 2 = 4 := by decide
            by_cases hin : p1 + 2 ≤ M0 129 2
            · have eb : bS (M0 sc) (M0 129 2) 2 (some (p1, o)) = (bv (M0 sc) p1 2, some (p1 + 2, o)) := bS_pos hin
              rw [eb] at v1 rb
              rw [eb]
              dsimp only at v1 rb ⊢
              by_cases hi0 : i = 0
              · have ep : tlP (M0 sc) (M0 129 2) t p1 i r = none := by
                  unfold tlP
                  rw [if_neg (by omega), if_pos et, if_pos hi0]
                rw [ep] at ec
                have ev : v = -1 := by omega
                refine E121 M3 (some (p1 + 2, o)) v (3 + bv (M0 sc) p1 2) t v1 (uk2_t t2 v2) (by omega) (by omega) (fun p2 z z1 z2 => by omega) (fun p2 o2 z => ?_) (fun _ => ec)
                injection z with z
                injection z with z3 z4
                exact z4.symm
              · have ev : v = r (i - 1) := by omega
                have ep : tlP (M0 sc) (M0 129 2) t p1 i r = some (v, 3 + bv (M0 sc) p1 2, p1 + 2) := by
                  unfold tlP
                  rw [if_neg (by omega), if_pos et, if_neg hi0, if_pos hin, ev]
                rw [ep] at ec
                have ec' : tlG (M0 sc) (M0 129 2) tl (h + e) (g + 1) q i r = if i + (3 + bv (M0 sc) p1 2) ≤ h + e then tlG (M0 sc) (M0 129 2) tl (h + e) g (p1 + 2) (i + (3 + bv (M0 sc) p1 2)) (fillU r i (3 + bv (M0 sc) p1 2) v) else none := ec
                have rv2 := a7 (i - 1) (by omega) (by omega)
                refine E121 M3 (some (p1 + 2, o)) v (3 + bv (M0 sc) p1 2) t v1 (uk2_t t2 v2) (by omega) (by omega) (fun p2 z _ z2 => ?_) (fun p2 o2 z => ?_) (fun z => ?_)
                · injection z with z
                  injection z with z3 z4
                  rw [← z3]
                  exact ⟨by omega, by rw [ec', if_pos z2]⟩
                · injection z with z
                  injection z with z3 z4
                  exact z4.symm
                · rw [ec', if_neg (fun z2 => z ⟨fun z5 => by (cases z5), by omega, z2⟩)]
            · have eb : bS (M0 sc) (M0 129 2) 2 (some (p1, o)) = (0, none) := bS_neg hin
              rw [eb] at v1
              rw [eb]
              have ep : tlP (M0 sc) (M0 129 2) t p1 i r = none := by
                unfold tlP
                rw [if_neg (by omega), if_pos et]
                split <;> rfl
              rw [ep] at ec
              exact E121 M3 none v (3 + 0) t v1 (uk2_t t2 v2) (by omega) (by omega) (fun p2 z => by cases z) (fun p2 o2 z => by cases z) (fun _ => ec)
          refine ⟨by omega, fun w4 => ?_, fun w4 => ?_⟩
          · refine ⟨by omega, ?_⟩
            have ev : M2 165 (i - 1) = r (i - 1) := by
              rw [t2.1 165 (by decide)]
              exact (a7 (i - 1) (by omega) (by omega)).1
            exact B64 _ (Or.inr ⟨w4, ev⟩)
          · exact B64 (-1) (Or.inl ⟨by omega, rfl⟩)
  have zz := L G p 0 0 (fun _ => 0) M none none none none hG (by omega) (by omega) (by omega) rfl hR (fun j j0 j1 => by omega) h15 h16 hV
  rw [← h15, ← h16] at zz
  exact zz
end ULENS
