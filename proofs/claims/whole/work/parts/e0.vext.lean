/-! UNPACKING: symbols without a length behind the others change nothing; readMade, whole -/
section VEXT
variable {f : Int → Int} {E : Int} {ls ls2 : Int → Int} {n n2 : Nat}
theorem cnt_ext (hn : n ≤ n2) (h1 : ∀ s : Nat, s < n → ls2 s = ls s) (h2 : ∀ s : Nat, n ≤ s → s < n2 → ls2 s = 0) {l : Int} (hl : l ≠ 0) : cnt ls2 n2 l = cnt ls n l := by
  induction n2 with
  | zero =>
    have e : n = 0 := by omega
    subst e
    rfl
  | succ m ih =>
    by_cases e : n = m + 1
    · subst e
      exact cnt_congr l _ h1
    · show cnt ls2 m l + (if ls2 m = l then 1 else 0) = cnt ls n l
      rw [ih (by omega) (fun s a b => h2 s a (by omega)), h2 m (by omega) (by omega), if_neg (fun z => hl z.symm)]
      omega
theorem nth_congr {l j : Int} : ∀ m : Nat, (∀ s : Nat, s < m → ls2 s = ls s) → nth ls2 l j m = nth ls l j m
  | 0, _ => rfl
  | m + 1, h => by
    show (if ls2 m = l ∧ cnt ls2 m l = j then (m : Int) else nth ls2 l j m) = (if ls m = l ∧ cnt ls m l = j then (m : Int) else nth ls l j m)
    rw [nth_congr m (fun s hs => h s (by omega)), h m (by omega), cnt_congr l m (fun s hs => h s (by omega))]
theorem nth_ext (hn : n ≤ n2) (h1 : ∀ s : Nat, s < n → ls2 s = ls s) (h2 : ∀ s : Nat, n ≤ s → s < n2 → ls2 s = 0) {l j : Int} (hl : l ≠ 0) : nth ls2 l j n2 = nth ls l j n := by
  induction n2 with
  | zero =>
    have e : n = 0 := by omega
    subst e
    rfl
  | succ m ih =>
    by_cases e : n = m + 1
    · subst e
      exact nth_congr _ h1
    · show (if ls2 m = l ∧ cnt ls2 m l = j then (m : Int) else nth ls2 l j m) = nth ls l j n
      rw [h2 m (by omega) (by omega), if_neg (fun z => hl z.1.symm)]
      exact ih (by omega) (fun s a b => h2 s a (by omega))
theorem syG_ext (hn : n ≤ n2) (h1 : ∀ s : Nat, s < n → ls2 s = ls s) (h2 : ∀ s : Nat, n ≤ s → s < n2 → ls2 s = 0) : ∀ (g l : Nat) (v fi p : Int), syG f E ls2 n2 g l v fi p = syG f E ls n g l v fi p
  | 0, _, _, _, _ => rfl
  | g + 1, l, v, fi, p => by
    show (if p < E then (if 2 * v + bt f p - fi < cnt ls2 n2 (l + 1 : Nat) then some (nth ls2 (l + 1 : Nat) (2 * v + bt f p - fi) n2, p + 1) else syG f E ls2 n2 g (l + 1) (2 * v + bt f p) (2 * (fi + cnt ls2 n2 (l + 1 : Nat))) (p + 1)) else none) = (if p < E then (if 2 * v + bt f p - fi < cnt ls n (l + 1 : Nat) then some (nth ls (l + 1 : Nat) (2 * v + bt f p - fi) n, p + 1) else syG f E ls n g (l + 1) (2 * v + bt f p) (2 * (fi + cnt ls n (l + 1 : Nat))) (p + 1)) else none)
    rw [cnt_ext hn h1 h2 (by omega), nth_ext hn h1 h2 (by omega), syG_ext hn h1 h2 g]
theorem sumL_ext (hn : n ≤ n2) (h1 : ∀ s : Nat, s < n → ls2 s = ls s) (h2 : ∀ s : Nat, n ≤ s → s < n2 → ls2 s = 0) : ∀ L : Nat, sumL ls2 n2 L = sumL ls n L ∧ offL ls2 n2 L = offL ls n L
  | 0 => ⟨rfl, rfl⟩
  | L + 1 => by
    have ih := sumL_ext hn h1 h2 L
    show sumL ls2 n2 L + cnt ls2 n2 (L + 1 : Nat) * 2 ^ (15 - (L + 1)) = sumL ls n L + cnt ls n (L + 1 : Nat) * 2 ^ (15 - (L + 1)) ∧ offL ls2 n2 L + cnt ls2 n2 (L + 1 : Nat) = offL ls n L + cnt ls n (L + 1 : Nat)
    rw [cnt_ext hn h1 h2 (by omega), ih.1, ih.2]
    exact ⟨rfl, rfl⟩
theorem okL_ext (hn : n ≤ n2) (h1 : ∀ s : Nat, s < n → ls2 s = ls s) (h2 : ∀ s : Nat, n ≤ s → s < n2 → ls2 s = 0) (z : Int) : okL ls2 n2 z ↔ okL ls n z := by
  unfold okL
  rw [(sumL_ext hn h1 h2 15).1, (sumL_ext hn h1 h2 15).2, cnt_ext hn h1 h2 (by omega)]
end VEXT
theorem smL_ext {f : Int → Int} {E : Int} {lb lb2 : Int → Int} {nb nb2 : Nat} {W mo : Int} (hb : ∀ p, sy f E lb2 nb2 p = sy f E lb nb p) (s p1 : Int) (o : List Int) : smL f E lb2 nb2 W mo s p1 o = smL f E lb nb W mo s p1 o := by
  unfold smL
  rw [hb]
theorem smG_ext {f : Int → Int} {E : Int} {la la2 lb lb2 : Int → Int} {na na2 nb nb2 : Nat} {W mo : Int} (ha : ∀ p, sy f E la2 na2 p = sy f E la na p) (hb : ∀ p, sy f E lb2 nb2 p = sy f E lb nb p) : ∀ (g : Nat) (p : Int) (o : List Int), smG f E la2 na2 lb2 nb2 W mo g p o = smG f E la na lb nb W mo g p o
  | 0, _, _ => rfl
  | g + 1, p, o => by
    show (match sy f E la2 na2 p with
      | none => none
      | some (s, p1) => if s = 256 then some (p1, o) else if s < 256 then (if (o.length : Int) < mo then smG f E la2 na2 lb2 nb2 W mo g p1 (o ++ [s]) else none) else match smL f E lb2 nb2 W mo s p1 o with
        | none => none
        | some (p4, o4) => smG f E la2 na2 lb2 nb2 W mo g p4 o4) = (match sy f E la na p with
      | none => none
      | some (s, p1) => if s = 256 then some (p1, o) else if s < 256 then (if (o.length : Int) < mo then smG f E la na lb nb W mo g p1 (o ++ [s]) else none) else match smL f E lb nb W mo s p1 o with
        | none => none
        | some (p4, o4) => smG f E la na lb nb W mo g p4 o4)
    rw [ha]
    cases sy f E la na p with
    | none => rfl
    | some q =>
      obtain ⟨s, p1⟩ := q
      dsimp only
      rw [smL_ext hb, smG_ext ha hb g p1]
      cases smL f E lb nb W mo s p1 o with
      | none => rfl
      | some q4 =>
        obtain ⟨p4, o4⟩ := q4
        dsimp only
        rw [smG_ext ha hb g p4]
section VMADE3
variable {d nx zl : Nat} {K : Option TV → FH → Prop} {sh : Nat → Option Shp} {M0 M : FM} {sc tc nS nT : Nat} {st : St}
theorem la_ext (r : Int → Int) {h : Int} (hh : 0 ≤ h ∧ h ≤ 288) : (h.toNat ≤ 288) ∧ (∀ s : Nat, s < h.toNat → laR r h s = r s) ∧ (∀ s : Nat, h.toNat ≤ s → s < 288 → laR r h s = 0) := ⟨by omega, fun s hs => if_pos (by omega), fun s hs _ => if_neg (by omega)⟩
theorem lb_ext (r : Int → Int) (h : Int) {e : Int} (he : 0 ≤ e ∧ e ≤ 32) : (e.toNat ≤ 32) ∧ (∀ s : Nat, s < e.toNat → lbR r h e s = r (h + s)) ∧ (∀ s : Nat, e.toNat ≤ s → s < 32 → lbR r h e s = 0) := ⟨by omega, fun s hs => if_pos (by omega), fun s hs _ => if_neg (by omega)⟩
theorem readMade_Y {G : Nat} (hC : vC sh M0 sc tc nS nT) (hG : vE M0 < G) (hR : vR M0 M tc st)
    (k0 : ∀ M2 : FM, vR M0 M2 tc none → (∀ p o W mo, st = some (p, o) → dyS (M0 sc) (vE M0) W mo G p o = none) → K none (sh, M2, nx, zl))
    (k1 : ∀ (M2 : FM) (p : Int) (o : List Int) (p2 : Int) (la lb : Int → Int), st = some (p, o) → (∀ W mo, dyS (M0 sc) (vE M0) W mo G p o = smG (M0 sc) (vE M0) la 288 lb 32 W mo G p2 o) → vR M0 M2 tc (some (p2, o)) → trV (M2 205) la 288 15 0 0 0 0 → trV (M2 207) lb 32 15 0 0 0 0 → K none (sh, M2, nx, zl)) : fm_Y (d + 3) 339 [.ref 168] (sh, M, nx, zl) K := by
  have tf := tc_far hC
  refine m339 [fx 168] ?_
  refine readNumber_Y (n := 5) hC hR (by omega) (fun v1 M1 a1 a2 a3 a4 => ?_)
  refine readNumber_Y (n := 5) hC a1 (by omega) (fun v2 M2 b1 b2 b3 b4 => ?_)
  refine readNumber_Y (n := 4) hC b1 (by omega) (fun v3 M3 c1 c2 c3 c4 => ?_)
  have e32 : (2 : Int) ^ 5 = 32 := by decide
  have e16 : (2 : Int) ^ 4 = 16 := by decide
  obtain ⟨r1, g1⟩ : ∃ r1, r1 = bS (M0 sc) (vE M0) 5 st := ⟨_, rfl⟩
  rw [← g1] at a3 b1 b3 c1 c3
  obtain ⟨r2, g2⟩ : ∃ r2, r2 = bS (M0 sc) (vE M0) 5 r1.2 := ⟨_, rfl⟩
  rw [← g2] at b3 c1 c3
  obtain ⟨r3, g3⟩ : ∃ r3, r3 = bS (M0 sc) (vE M0) 4 r2.2 := ⟨_, rfl⟩
  rw [← g3] at c1 c3
  -- something wrong
  have X47 : (∀ p o W mo, st = some (p, o) → dyS (M0 sc) (vE M0) W mo G p o = none) → b339_47 (d + 2) (fW (d + 2) kd339 K) K [some (fx 168), some (ti (v1 + 257)), some (ti (v2 + 1)), some (ti (v3 + 4)), none, none, none, none] [fx 168] (sh, M3, nx, zl) := by
    intro hz
    refine ⟨Or.inr rfl, ?_⟩
    exact mX58 hC (by omega) (fun M4 x => k0 M4 x hz) 19 0 _ rfl (vW1 tf.1 c1).1
  cases st with
  | none =>
    have e1 : r1 = (0, none) := g1
    rw [e1] at g2
    have e2 : r2 = (0, none) := g2
    rw [e2] at g3
    have e3 : r3 = (0, none) := g3
    rw [e3] at c1
    have hf : M3 168 54 % 2 = 1 := c1.2.1
    refine ⟨by omega, fun w => X47 (fun p o W mo z => by cases z), fun w => by omega⟩
  | some q0 =>
    obtain ⟨p, o⟩ := q0
    by_cases h14 : p + 14 ≤ vE M0
    · have g1' : r1 = (bv (M0 sc) p 5, some (p + 5, o)) := by
        rw [g1]
        exact bS_pos (by omega)
      have g2' : r2 = (bv (M0 sc) (p + 5) 5, some (p + 10, o)) := by
        rw [g2, g1']
        have z : bS (M0 sc) (vE M0) 5 (some (p + 5, o)) = (bv (M0 sc) (p + 5) 5, some (p + 5 + (5 : Nat), o)) := bS_pos (by omega)
        rw [show p + 5 + ((5 : Nat) : Int) = p + 10 by omega] at z
        exact z
      have g3' : r3 = (bv (M0 sc) (p + 10) 4, some (p + 14, o)) := by
        rw [g3, g2']
        have z : bS (M0 sc) (vE M0) 4 (some (p + 10, o)) = (bv (M0 sc) (p + 10) 4, some (p + 10 + (4 : Nat), o)) := bS_pos (by omega)
        rw [show p + 10 + ((4 : Nat) : Int) = p + 14 by omega] at z
        exact z
      rw [g1'] at a3
      rw [g2'] at b3
      rw [g3'] at c1 c3
      have eh : v1 + 257 = teH (M0 sc) p := by
        rw [a3 (fun z => by cases z)]
        rfl
      have ed : v2 + 1 = teD (M0 sc) p := by
        rw [b3 (fun z => by cases z)]
        rfl
      have ec : v3 + 4 = teC (M0 sc) p := by
        rw [c3 (fun z => by cases z)]
        rfl
      have c1' : vR M0 M3 tc (some (p + 14, o)) := c1
      have hf := c1'.2.1.2.1
      have NK : ¬ teK (M0 sc) (vE M0) p → ∀ p2 o2 W mo, (some (p, o) : St) = some (p2, o2) → dyS (M0 sc) (vE M0) W mo G p2 o2 = none := by
        intro hz p2 o2 W mo z
        injection z with z
        injection z with z3 z4
        rw [← z3, ← z4]
        unfold dyS
        rw [cif_neg hz]
      refine ⟨by omega, fun w => by omega, fun w => ?_⟩
      refine ⟨by omega, fun w2 => X47 (NK (fun z => by have := z.2.1; omega)), fun w2 => ?_⟩
      refine ⟨by omega, fun w3 => ?_, fun w3 => X47 (NK (fun z => by have := z.2.2.1; omega))⟩
      refine ⟨Or.inl rfl, ?_⟩
      obtain ⟨z1, z2⟩ := vW0 tf.1 c1' hf
      have zz := rm58 (d := d) (nx := nx) (zl := zl) (K := K) (p := p + 14) (o := o) (c := v3 + 4) (h := v1 + 257) (e := v2 + 1) (y5 := none) (y6 := none) (y7 := none) hC (by omega) (by omega) (by omega) (fun M4 x1 x2 => k0 M4 x2 (NK (fun z => x1 (by rw [ec]; exact ⟨z.1, z.2.2.2⟩)))) (fun M4 x1 x2 x3 x4 => ?_) 19 0 _ (fun t => um M3 168 (ur (M3 168) 54 0) 210 (320 + t)) rfl (by rw [if_pos (show ((0 : Nat) : Int) < v3 + 4 by omega)]; show vR M0 _ tc (some (p + 14 + 3 * 0, o)); rw [show p + 14 + 3 * 0 = p + 14 by omega]; exact z1) (fun t _ _ => rfl)
      · exact zz
      · rw [ec] at x1 x2 x3 x4
        have hteK : teK (M0 sc) (vE M0) p := ⟨x1, by omega, by omega, x2⟩
        have hx30 := x3.2.1.1
        have u11 := hC.2.2.2.1.1
        have hx31 := x3.2.2.1
        have ALL : ∀ (r : Int → Int) (p5 : Int), tlG (M0 sc) (vE M0) (tlS (M0 sc) (p + 14) (teC (M0 sc) p)) (teH (M0 sc) p + teD (M0 sc) p) G (p + 14 + 3 * teC (M0 sc) p) 0 (fun _ => 0) = some (p5, r) → ((0 < r 256 ∧ okL (laR r (v1 + 257)) 288 0 ∧ okL (lbR r (v1 + 257) (v2 + 1)) 32 1) ↔ (0 < r 256 ∧ okL r (teH (M0 sc) p).toNat 0 ∧ okL (fun s => r (teH (M0 sc) p + s)) (teD (M0 sc) p).toNat 1)) := by
          intro r p5 _
          obtain ⟨q1, q2, q3⟩ := la_ext r (h := v1 + 257) (by omega)
          obtain ⟨q4, q5, q6⟩ := lb_ext r (v1 + 257) (e := v2 + 1) (by omega)
          rw [okL_ext q1 q2 q3, okL_ext (ls := fun s => r (v1 + 257 + s)) q4 q5 q6, eh, ed]
        refine rm139 (G := G) (p0 := p + 14 + 3 * teC (M0 sc) p) (tl := tlS (M0 sc) (p + 14) (teC (M0 sc) p)) (o := o) (y7 := none) hC (by omega) (by omega) (fun M5 y1 y2 => ?_) (fun M5 p5 r y6 y7 y1 y2 y3 => ?_) G _ 0 (fun _ => 0) M4 none none none (by unfold vE at hG; unfold vE; omega) (by omega) (by omega) rfl x3 (fun j j0 j1 => by omega) x4
        · refine k0 M5 y2 (fun p2 o2 W mo z => ?_)
          injection z with z
          injection z with z3 z4
          rw [← z3, ← z4]
          unfold dyS
          rw [eh, ed] at y1
          rw [cif_pos hteK, y1]
        · rw [eh, ed] at y1
          have AL := ALL r p5 y1
          refine rm346 (r := r) (p := p5) (o := o) hC (by omega) (by omega) (fun j j0 j1 => (y3 j j0 j1).2) (fun M6 x5 x6 => ?_) (fun M6 x5 x6 x7 x8 => ?_) 320 0 M5 rfl y2 (fun j j0 j1 => (y3 j j0 j1).1) (fun q q0 q1 => by omega)
          · refine k0 M6 x6 (fun p2 o2 W mo z => ?_)
            injection z with z
            injection z with z3 z4
            rw [← z3, ← z4]
            unfold dyS
            rw [cif_pos hteK, y1]
            exact cif_neg (fun q => x5 (AL.2 q))
          · refine k1 M6 p o p5 (laR r (v1 + 257)) (lbR r (v1 + 257) (v2 + 1)) rfl (fun W mo => ?_) x6 x7 x8
            unfold dyS
            rw [cif_pos hteK, y1]
            have e9 := cif_pos (a := smG (M0 sc) (vE M0) r (teH (M0 sc) p).toNat (fun s => r (teH (M0 sc) p + s)) (teD (M0 sc) p).toNat W mo G p5 o) (b := none) (AL.1 x5)
            refine e9.trans ?_
            obtain ⟨q1, q2, q3⟩ := la_ext r (h := v1 + 257) (by omega)
            obtain ⟨q4, q5, q6⟩ := lb_ext r (v1 + 257) (e := v2 + 1) (by omega)
            rw [← eh, ← ed]
            exact (smG_ext (fun p => syG_ext q1 q2 q3 15 0 0 0 p) (fun p => syG_ext (ls := fun s => r (v1 + 257 + s)) q4 q5 q6 15 0 0 0 p) G p5 o).symm
    · have hn : r3.2 = none := by
        by_cases a : p + 5 ≤ vE M0
        · have g1' : r1.2 = some (p + 5, o) := by
            rw [g1, bS_pos (by omega)]
            rfl
          by_cases b : p + 10 ≤ vE M0
          · have g2' : r2.2 = some (p + 10, o) := by
              rw [g2, g1', bS_pos (by omega)]
              show some (p + 5 + ((5 : Nat) : Int), o) = _
              rw [show p + 5 + ((5 : Nat) : Int) = p + 10 by omega]
            rw [g3, g2', bS_neg (by omega)]
          · have g2' : r2.2 = none := by rw [g2, g1', bS_neg (by omega)]
            rw [g3, g2']
            rfl
        · have g1' : r1.2 = none := by rw [g1, bS_neg (by omega)]
          rw [g3, g2, g1']
          rfl
      rw [hn] at c1
      have hf := c1.2.1
      have hcc : ¬ teK (M0 sc) (vE M0) p := by
        intro z
        have z1 := z.1
        unfold teC at z1
        have z2 := (bv_rng (M0 sc) (p + 10) 4).1
        omega
      refine ⟨by omega, fun w => X47 (fun p2 o2 W mo z => ?_), fun w => by omega⟩
      injection z with z
      injection z with z3 z4
      rw [← z3, ← z4]
      unfold dyS
      rw [cif_neg hcc]
end VMADE3
