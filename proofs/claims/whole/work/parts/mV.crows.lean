/-! FREEZING: all rows, the class -/
def pcN (n : Nat) : Nat := (n + 8191) / 8192
def rs0 : RS := ([], [], fun _ => -1)
def hmX (M0 : FM) (x : Int) : TV := if x = 0 then nl else gr (M0 11 (M0 178 x)).toNat
theorem rzO_fl {M : FM} {a b n : Nat} {s : Option (List Int)} (h : rzO M a b n s) : M a 2 = 0 ∨ M a 2 = 1 := by
  cases s with
  | none => exact Or.inr h.2
  | some X => exact Or.inl h.2.2.2
def hmV : Option Nat → TV
  | none => nl
  | some h => gr h
section CROWS
variable {d nx zl : Nat} {K : Option TV → FH → Prop} {sh : Nat → Option Shp} {M0 : FM} {op : Int} {B : Nat} {L ids : List Int} {D : DS} {I0 : List Int}
/-- a directory's directory -/
theorem dir_kid (hT : treeR sh M0) {x : Int} {a j : Nat} (ha : M0 11 x = a) (hj : j < ec M0 x) (h1 : M0 171 (M0 184 (fe M0 x + j)) = 1) : M0 178 (M0 184 (fe M0 x + j)) = x ∧ 0 < M0 184 (fe M0 x + j) ∧ M0 (ceC M0 x j) 4 = M0 a 4 + 1 ∧ M0 (ceC M0 x j) 4 ≤ 100 := by
  have er := fe_r hT.1 x
  have cl := ent_live hT.1 (k := fe M0 x + j) (by omega) (by omega)
  have e1 := (hT.1.2.2.2.1.2 (fe M0 x + j) (by omega) (by omega)).2.2.2 h1
  have e2 := fe_in hT.1 (F := x) (k := fe M0 x + j) (by omega) (by omega)
  have e3 : M0 178 (M0 184 (fe M0 x + j)) = x := by omega
  obtain ⟨b, h, t, eb, hS, hb3, -, -, -, hD⟩ := nd_of hT ⟨⟨by omega, cl.1.2⟩, cl.2⟩
  have eb2 : ceC M0 x j = b := by
    unfold ceC
    omega
  obtain ⟨d1, d2⟩ := hD.2 h1
  have d3 := (d2.2 cl.1.1).2
  rw [e3, ha, show ((a : Nat) : Int).toNat = a by omega] at d3
  rw [eb2]
  exact ⟨e3, cl.1.1, d3, d1⟩
theorem walk_Y (hs : sxC M0 op B L ids D) : ∀ (f : Nat) (x δ : Int) (a stp : Nat) (M : FM) (o : Option RS) (y4 : Option TV), x ∈ L → M0 171 x = 1 → M0 11 x = a → M0 a 4 = δ → (f : Int) + δ = 101 → (x = 0 ∨ M0 178 x ∈ L) → cxC sh M0 M op B L ids D → cjS M0 M (1 - op % 2) L I0 o → M 96 δ = fe M0 x → stp + coD M0 f x ≤ 4000 → (∀ (M2 : FM) (y : Option TV), cwF sh M M2 → (∀ i : Int, i < δ → M2 96 i = M 96 i) → cjS M0 M2 (1 - op % 2) L I0 (rsD M0 (1 - op % 2) ids L D f x o) → 0 ≤ M2 a 15 → fm_X (d + 7) kd104 20 [some (fx 18), some (fx 8), some (hmX M0 x), some (ti ((stp + coD M0 f x : Nat) : Int)), y] [] (sh, M2, nx, zl) K) → fm_X (d + 7) kd104 20 [some (fx 18), some (fx 8), some (gr a), some (ti stp), y4] [] (sh, M, nx, zl) K := by
  intro f
  induction f with
  | zero =>
    intro x δ a stp M o y4 hx h1 ha hδ hf hpa hc
    obtain ⟨a2, h9, t9, ea, hS, ha3, hE, -, -, hD⟩ := nd_of hc.1 (hs.2.2.2.1.2 x hx)
    have ea2 : a2 = a := by omega
    rw [ea2] at hD
    have := (hD.2 h1).1
    omega
  | succ f IH =>
    intro x δ a stp M o y4 hx h1 ha hδ hf hpa hc hJ hw hst k
    have hs0 := hs
    obtain ⟨hW, hop, hB, hP, ⟨-, hcl⟩, ⟨i1, i2, i3⟩, -, -⟩ := hs
    have hc0 := hc
    have hT := hc.1
    have z01 : 0 ≤ 1 - op % 2 ∧ 1 - op % 2 ≤ 1 := by omega
    obtain ⟨a2, h9, t9, ea, hS, ha3, hE, -, -, hDd⟩ := nd_of hT (hP.2 x hx)
    have ea2 : a2 = a := by omega
    rw [ea2] at hS ha3 hE hDd
    have dd := hDd.2 h1
    have d0 := hDd.1
    have xr := (hP.2 x hx).1
    have n20 := hT.1.2.2.2.1.1
    have nN := hT.1.1.1
    have er := fe_r hT.1 x
    have LL := nuP_len hW hP
    have eco : coD M0 (f + 1) x = coK M0 (coD M0 f) (fe M0 x) (ec M0 x) + 1 := rfl
    have hm : hmX M0 x = hmV h9 := by
      unfold hmX
      by_cases x0 : x = 0
      · rw [if_pos x0, (dd.2.1 x0).1]
        rfl
      · rw [if_neg x0, (dd.2.2 (by omega)).1]
        rfl
    have IN : ∀ (N j0 : Nat) (M1 : FM) (y : Option TV), ec M0 x - j0 < N → j0 ≤ ec M0 x → cwF sh M M1 → cjS M0 M1 (1 - op % 2) L I0 (rsK M0 (rsD M0 (1 - op % 2) ids L D f) (fe M0 x) j0 o) → M1 96 δ = fe M0 x + j0 → (∀ i : Int, i < δ → M1 96 i = M 96 i) → (∀ t : Nat, t < j0 → M0 171 (M0 184 (fe M0 x + t)) = 1 → 0 ≤ M1 (ceC M0 x t) 15) → fm_X (d + 7) kd104 20 [some (fx 18), some (fx 8), some (gr a), some (ti ((stp + coK M0 (coD M0 f) (fe M0 x) j0 : Nat) : Int)), y] [] (sh, M1, nx, zl) K := by
      intro N
      induction N with
      | zero =>
        intro j0 M1 y hN
        omega
      | succ N ih =>
        intro j0 M1 y hN hj f1 J1 h96 lo p1
        have ck := coK_le M0 (coD M0 f) (fe M0 x) hj
        have c1 := cxC_w hP hc0 f1
        refine s104_20 (d + 7) K _ _ _ ?_
        refine ⟨by omega, fun w => by omega, fun w => ?_⟩
        refine nextFolder_Y (d := d + 3) (j0 := j0) (δ := δ) hT c1.2.1 (hP.2 x hx) ha hδ (by omega) h96 hj (fun j M2 j1 jn hno hkd f2 w96 n96 => ?_) (fun M2 hno f2 n96 => ?_)
        · -- down
          obtain ⟨u1, v1, hSc, hc3, hc11, hEc⟩ := ce_of (x := x) hT jn
          obtain ⟨e178, ypos, dep, dep2⟩ := dir_kid hT ha jn hkd
          obtain ⟨c, hcc⟩ : ∃ c : Nat, c = ceC M0 x j := ⟨_, rfl⟩
          obtain ⟨y1, hy1⟩ : ∃ y1 : Int, y1 = M0 184 (fe M0 x + j) := ⟨_, rfl⟩
          have yL : y1 ∈ L := by rw [hy1]; exact hcl x hx j jn
          rw [← hcc] at hSc hc3 hc11 hEc dep dep2 ⊢
          rw [← hy1] at hc11 hEc e178 ypos hkd
          have yr := (hP.2 y1 yL).1
          have f12 : cwF sh M1 M2 := cwF_o (fun c hc => f2 c (by omega)) (fun i _ _ => by rw [f2 18 (by omega)])
          have c2 := cxC_w hP c1 f12
          have d4 : M2 c 4 = δ + 1 := by
            rw [c2.2.1.2.2 c 4 hc3 (by decide)]
            omega
          refine ⟨_, hSc, ?_⟩
          have fx1 : fe M2 y1 = fe M0 y1 := by
            unfold fe
            rw [c2.2.1.1 168 (by omega), c2.2.1.1 183 (by omega)]
          refine first_Y (d := d + 4) (F := y1) (treeR_fz hT c2.2.1) hSc (by rw [c2.2.1.2.2 c 0 hc3 (by decide)]; exact hEc.1) (by omega) ?_
          refine ⟨by omega, ?_⟩
          rw [fx1]
          obtain ⟨P, gP⟩ : ∃ P : FM, P = um M2 96 (ur (M2 96) (M2 c 4) (fe M0 y1)) := ⟨_, rfl⟩
          have po : ∀ c : Nat, c ≠ 96 → P c = M2 c := fun c hc => by rw [gP, um_ne hc]
          have pn : ∀ i : Int, i ≠ δ + 1 → P 96 i = M2 96 i := fun i hi => by rw [gP, um_at, ur_ne (by rw [d4]; exact hi)]
          have f2P : cwF sh M2 P := cwF_o (fun c hc => po c (by omega)) (fun i _ _ => by rw [po 18 (by omega)])
          have f1P := cwF_t f12 f2P
          have oP : ∀ c : Nat, c ≠ 96 → P c = M1 c := fun c hc => by rw [po c hc, f2 c hc]
          have sk : rsK M0 (rsD M0 (1 - op % 2) ids L D f) (fe M0 x) j o = rsK M0 (rsD M0 (1 - op % 2) ids L D f) (fe M0 x) j0 o := by
            have := rsK_skip M0 (rsD M0 (1 - op % 2) ids L D f) (fe M0 x) o j0 (j - j0) (fun t t0 t1 => hno t t0 (by omega))
            rw [show j0 + (j - j0) = j by omega] at this
            exact this
          have ckj : coK M0 (coD M0 f) (fe M0 x) j = coK M0 (coD M0 f) (fe M0 x) j0 := by
            have := coK_skip M0 (coD M0 f) (fe M0 x) j0 (j - j0) (fun t t0 t1 => hno t t0 (by omega))
            rw [show j0 + (j - j0) = j by omega] at this
            exact this
          have ck1 : coK M0 (coD M0 f) (fe M0 x) (j + 1) = coK M0 (coD M0 f) (fe M0 x) j + 1 + coD M0 f y1 := by
            show (if M0 171 (M0 184 (fe M0 x + j)) = 1 then coK M0 (coD M0 f) (fe M0 x) j + 1 + coD M0 f (M0 184 (fe M0 x + j)) else coK M0 (coD M0 f) (fe M0 x) j) = _
            rw [← hy1, if_pos hkd]
          have rk1 : rsK M0 (rsD M0 (1 - op % 2) ids L D f) (fe M0 x) (j + 1) o = rsD M0 (1 - op % 2) ids L D f y1 (rsK M0 (rsD M0 (1 - op % 2) ids L D f) (fe M0 x) j o) := by
            show (if M0 171 (M0 184 (fe M0 x + j)) = 1 then rsD M0 (1 - op % 2) ids L D f (M0 184 (fe M0 x + j)) (rsK M0 (rsD M0 (1 - op % 2) ids L D f) (fe M0 x) j o) else _) = _
            rw [← hy1, if_pos hkd]
          have ck2 := coK_le M0 (coD M0 f) (fe M0 x) (j := j + 1) (n := ec M0 x) (by omega)
          have JP : cjS M0 P (1 - op % 2) L I0 (rsK M0 (rsD M0 (1 - op % 2) ids L D f) (fe M0 x) j o) := by
            rw [sk]
            obtain ⟨sI, sQ, ⟨hI, hQ⟩, hr, hn, ho⟩ := J1
            have N : ∀ y ∈ L, P (M0 11 y).toNat = M1 (M0 11 y).toNat := fun y hy => by
              obtain ⟨b, u, v, eb, -, hb3, -⟩ := nd_of hT (hP.2 y hy)
              exact oP _ (by omega)
            refine ⟨sI, sQ, ⟨cpO_F hI (oP 68 (by omega)) (oP 70 (by omega)) (oP 71 (by omega)) (oP 69 (by omega)) (oP 19 (by omega)) (oP 20 (by omega)), cpO_F hQ (oP 72 (by omega)) (oP 74 (by omega)) (oP 75 (by omega)) (oP 73 (by omega)) (oP 88 (by omega)) (oP 89 (by omega))⟩, fun y hy => by rw [N y hy]; exact hr y hy, hn, fun s hs => ?_⟩
            obtain ⟨s1, s2, s3⟩ := ho s hs
            exact ⟨s1, fun y hy => by rw [N y hy]; exact s2 y hy, s3⟩
          have F := IH y1 (δ + 1) c (stp + coK M0 (coD M0 f) (fe M0 x) j0 + 1) P (rsK M0 (rsD M0 (1 - op % 2) ids L D f) (fe M0 x) j o) (some (gr c)) yL hkd hc11 (by omega) (by omega) (Or.inr (by rw [e178]; exact hx)) (cxC_w hP c2 f2P) JP (by rw [gP, um_at, d4, ur_at]) (by omega) (fun M3 y3 f3 l3 J3 q3 => ?_)
          · rw [gP, show ((stp + coK M0 (coD M0 f) (fe M0 x) j0 + 1 : Nat) : Int) = ((stp + coK M0 (coD M0 f) (fe M0 x) j0 : Nat) : Int) + 1 by omega] at F
            exact F
          · have eh : hmX M0 y1 = gr a := by
              unfold hmX
              rw [if_neg (by omega), e178, ha]
              rfl
            rw [eh, show stp + coK M0 (coD M0 f) (fe M0 x) j0 + 1 + coD M0 f y1 = stp + coK M0 (coD M0 f) (fe M0 x) (j + 1) by omega]
            rw [← rk1] at J3
            refine ih (j + 1) M3 y3 (by omega) (by omega) (cwF_t f1 (cwF_t f1P f3)) J3 (by rw [l3 δ (by omega), pn δ (by omega), w96]; omega) (fun i hi => by rw [l3 i (by omega), pn i (by omega), n96 i (by omega), lo i hi]) (fun t ht hk => ?_)
            by_cases e : t = j
            · rw [e, ← hcc]
              exact q3
            · have t0 : t < j0 := by
                by_cases q : t < j0
                · exact q
                · exact absurd hk (hno t (by omega) (by omega))
              obtain ⟨-, -, -, ht3, -⟩ := ce_of (x := x) (j := t) hT (by omega)
              exact (cwF_t f1P f3).2.2.2.2 _ ht3 (p1 t t0 hk)
        · -- ended
          have f12 : cwF sh M1 M2 := cwF_o (fun c hc => f2 c (by omega)) (fun i _ _ => by rw [f2 18 (by omega)])
          have c2 := cxC_w hP c1 f12
          have J2 : cjS M0 M2 (1 - op % 2) L I0 (rsK M0 (rsD M0 (1 - op % 2) ids L D f) (fe M0 x) (ec M0 x) o) := by
            have sk := rsK_skip M0 (rsD M0 (1 - op % 2) ids L D f) (fe M0 x) o j0 (ec M0 x - j0) (fun t t0 t1 => hno t t0 (by omega))
            rw [show j0 + (ec M0 x - j0) = ec M0 x by omega] at sk
            rw [sk]
            obtain ⟨sI, sQ, ⟨hI, hQ⟩, hr, hn, ho⟩ := J1
            have N : ∀ y ∈ L, M2 (M0 11 y).toNat = M1 (M0 11 y).toNat := fun y hy => by
              obtain ⟨b, u, v, eb, -, hb3, -⟩ := nd_of hT (hP.2 y hy)
              exact f2 _ (by omega)
            refine ⟨sI, sQ, ⟨cpO_F hI (f2 68 (by omega)) (f2 70 (by omega)) (f2 71 (by omega)) (f2 69 (by omega)) (f2 19 (by omega)) (f2 20 (by omega)), cpO_F hQ (f2 72 (by omega)) (f2 74 (by omega)) (f2 75 (by omega)) (f2 73 (by omega)) (f2 88 (by omega)) (f2 89 (by omega))⟩, fun y hy => by rw [N y hy]; exact hr y hy, hn, fun s hs => ?_⟩
            obtain ⟨s1, s2, s3⟩ := ho s hs
            exact ⟨s1, fun y hy => by rw [N y hy]; exact s2 y hy, s3⟩
          have ckE : coK M0 (coD M0 f) (fe M0 x) (ec M0 x) = coK M0 (coD M0 f) (fe M0 x) j0 := by
            have := coK_skip M0 (coD M0 f) (fe M0 x) j0 (ec M0 x - j0) (fun t t0 t1 => hno t t0 (by omega))
            rw [show j0 + (ec M0 x - j0) = ec M0 x by omega] at this
            exact this
          refine putOthers_Y (d := d) hs0 c2 hx ha (fun t tn hk => ?_) J2 (fun M3 f3 g96 J3 p3 => ?_)
          · have t0 : t < j0 := by
              by_cases q : t < j0
              · exact q
              · exact absurd hk (hno t (by omega) (by omega))
            obtain ⟨-, -, -, ht3, -⟩ := ce_of (x := x) (j := t) hT tn
            exact f12.2.2.2.2 _ ht3 (p1 t t0 hk)
          have c3 := cxC_w hP c2 f3
          obtain ⟨sI, sQ, ⟨hI, hQ⟩, hr, hn, ho⟩ := id J3
          have hnu : ∀ j : Nat, j < ec M0 x → M3 (ceC M0 x j) 14 = nuO L (M0 184 (fe M0 x + j)) := fun j jn => c3.2.2.1.2.1 _ (hcl x hx j jn)
          have hb : cgB M0 M3 x := fun j jn => by
            have q1 := hr _ (hcl x hx j jn)
            have q2 := nuO_r (hcl x hx j jn)
            rw [← hnu j jn] at q2
            exact ⟨q1, by omega⟩
          have h17 : M3 18 17 = op := c3.2.2.2.2.1.2
          refine cputListing_Y (d := d) (sQ := sQ) hT c3.2.1 (hP.2 x hx) ha c3.2.2.2.1 hop h17 hb hQ (fun M4 f4 h14 h72 w4 b13 b94 h13 => ?_)
          have w34 : cwF sh M3 M4 := cwF_o (fun c hc => f4.1 c (by omega)) f4.2
          have c4 := cxC_w hP c3 w34
          have z4 := c4.2.1
          have fa : ∀ i : Int, i < 14 → M4 a i = M0 a i := fun i hi => z4.2.2 a i ha3 hi
          obtain ⟨e0, e1, e2, e5, e6, e7, e8, e9, e10⟩ := hE
          obtain ⟨k1', -, t172, t173, t174, t175, t176⟩ := hW.1.2 x xr.1 xr.2
          have nx2 := c4.2.2.1.2.1 x hx
          rw [show (M0 11 x).toNat = a by omega] at nx2
          have nr := nuO_r hx
          have i3x := i3 x hx
          have hO : ndO M4 a ids := by
            unfold ndO
            rw [fa 5 (by decide), fa 6 (by decide), fa 7 (by decide), fa 8 (by decide), nx2, e5, e6, e7, e8]
            exact ⟨t172, t173, t174, t175, by omega, i3x.1, i3x.2⟩
          have eC : cmA M4 a ids = cmR M0 ids L x := by
            funext ty
            unfold cmA cmR
            rw [fa 5 (by decide), fa 6 (by decide), fa 7 (by decide), fa 8 (by decide), nx2, e5, e6, e7, e8]
          have hI4 : cpO M4 68 70 71 69 19 20 131072 (1 - op % 2) (some I0) sI := cpO_F hI (f4.1 68 (by omega)) (f4.1 70 (by omega)) (f4.1 71 (by omega)) (f4.1 69 (by omega)) (f4.1 19 (by omega)) (f4.1 20 (by omega))
          have q70 := hI4.1.1
          obtain ⟨-, ⟨k0, hK, hk0⟩, -, -⟩ := id hI4
          have hk8 := hK.2.1
          have h69 := hK.2.2 (M4 70 1 / 8192).toNat (by omega)
          rw [show (((M4 70 1 / 8192).toNat : Nat) : Int) = M4 70 1 / 8192 by omega] at h69
          have q74 := hQ.1.1
          have q74b := w4.1.1
          obtain ⟨-, ⟨k2, hK2, hk2⟩, -, -⟩ := id hQ
          obtain ⟨-, ⟨k3, hK3, hk3⟩, -, -⟩ := id w4
          have e22 := hK2.1
          have e33 := hK3.1
          have hk38 := hK3.2.1
          have h73 := hK3.2.2 (M3 74 1 / 8192).toNat (by omega)
          rw [show (((M3 74 1 / 8192).toNat : Nat) : Int) = M3 74 1 / 8192 by omega] at h73
          have pr : 0 ≤ paN M0 L x ∧ paN M0 L x ≤ 3000 := by
            unfold paN
            by_cases x0 : x = 0
            · rw [if_pos x0]
              omega
            · rw [if_neg x0]
              rcases hpa with q | q
              · exact absurd q x0
              · have := nuO_r q
                omega
          have hpa2 : fdH M4 h9 = paN M0 L x := by
            unfold paN
            by_cases x0 : x = 0
            · rw [if_pos x0, (dd.2.1 x0).1]
              show M4 18 2 + 1 = _
              rw [c4.2.2.1.1]
            · rw [if_neg x0, (dd.2.2 (by omega)).1]
              rcases hpa with q | q
              · exact absurd q x0
              · exact c4.2.2.1.2.1 _ q
          refine putInode_f (d := d + 1) (ids := ids) (pa := paN M0 L x) hT z4 (hP.2 x hx) ha hS ha3 hO c4.2.2.2.2.2.1 (by rw [fa 1 (by decide), e1]; exact h1) (fun h hh => ?_) hpa2 pr (by omega) q74b (by rw [h14]; omega) (by omega) b94 q70 (by omega) hI4.1 (fun M5 f5 w5 => ?_)
          · have x0 : x ≠ 0 := fun q => by
              rw [(dd.2.1 q).1] at hh
              cases hh
            rw [(dd.2.2 (by omega)).1] at hh
            rcases hpa with q | q
            · exact absurd q x0
            · obtain ⟨b, u, v, eb, hSb, -⟩ := nd_of hT (hP.2 _ q)
              refine ⟨u, v, ?_⟩
              rw [← Option.some.inj hh, eb]
              exact hSb
          rw [eC] at w5
          refine packsRows_Y (d := d + 6) (op := op) (by rw [f5.1 18 (by omega) (by omega) (by omega)]; exact c4.2.2.2.2.1.2) ?_
          refine cls_Y (d := d + 1) z01 ha3 c4.2.2.2.1 hI4 f5 w5 (fun M6 f6 w6 => ?_)
          obtain ⟨g1, g2, g3, g4⟩ := cfin_J (ids := ids) hT c3.2.1 hP hx ha hnu (hcl x hx) p3 hI hQ hr hn ho f4 h14 w4 h13 rfl f5 f6 w6
          refine ⟨_, hS, ?_⟩
          have F := k M6 (some nl) (cwF_t f1 (cwF_t f12 (cwF_t f3 g1))) (fun i hi => by rw [g2, g96, n96 i (by omega), lo i hi]) g3 g4
          rw [eco, ckE, show ((stp + (coK M0 (coD M0 f) (fe M0 x) j0 + 1) : Nat) : Int) = ((stp + coK M0 (coD M0 f) (fe M0 x) j0 : Nat) : Int) + 1 by omega, hm] at F
          cases h9 with
          | none => exact F
          | some h => exact F
    have F := IN (ec M0 x + 1) 0 M y4 (by omega) (by omega) (cwF_r sh M) hJ (by rw [hw]; omega) (fun i hi => rfl) (fun t ht => by omega)
    exact F
/-- all rows, and all their pieces closed -/
theorem putRows_Y {M : FM} (hs : sxC M0 op B L ids D) (hc : cxC sh M0 M op B L ids D) (hI : cpO M 68 70 71 69 19 20 131072 (1 - op % 2) (some I0) (some [])) (hQ : cpO M 72 74 75 73 88 89 65552 (1 - op % 2) (some []) (some [])) (hr : ∀ x ∈ L, M (M0 11 x).toNat 15 = -1) (hco : coD M0 101 0 ≤ 4000)
    (k : ∀ M2 : FM, cwF sh M M2 → rzT M2 19 20 131072 (some I0) → (∃ t, rzO M2 88 89 65552 t) → ((M2 70 2 = 0 ∨ M2 70 2 = 1) ∧ (M2 74 2 = 0 ∨ M2 74 2 = 1)) → (∀ x ∈ L, -1 ≤ M2 (M0 11 x).toNat 15 ∧ M2 (M0 11 x).toNat 15 ≤ 8589942784) → (rsD M0 (1 - op % 2) ids L D 101 0 (some rs0) = none → M2 70 2 = 1 ∨ M2 74 2 = 1) → (∀ s : RS, rsD M0 (1 - op % 2) ids L D 101 0 (some rs0) = some s → (M2 70 2 = 0 ∧ M2 74 2 = 0) ∧ rzO M2 19 20 131072 (apO 131072 (some I0) (clG (1 - op % 2) (rI s) 0 (pcN (rI s).length))) ∧ rzO M2 88 89 65552 (some (clG (1 - op % 2) (rQ s) 0 (pcN (rQ s).length))) ∧ ((rI s).length ≤ 65536 ∧ (rQ s).length ≤ 65536) ∧ (∀ x ∈ L, M2 (M0 11 x).toNat 15 = rfO (1 - op % 2) s x) ∧ ∀ x : Int, -1 ≤ rP s x ∧ rP s x ≤ (rI s).length) → K none (sh, M2, nx, zl)) : fm_Y (d + 8) 104 [.ref 18, .ref 8] (sh, M, nx, zl) K := by
  have hs0 := hs
  obtain ⟨hW, hop, hB, hP, ⟨h0L, hcl⟩, -, -, -⟩ := hs
  have hT := hc.1
  have z01 : 0 ≤ 1 - op % 2 ∧ 1 - op % 2 ≤ 1 := by omega
  obtain ⟨a, h9, t9, ea, hS, ha3, hE, -, -, hDd⟩ := nd_of hT (hP.2 0 h0L)
  have nN := hW.1.1
  have h1 : M0 171 0 = 1 := nN.2.2
  have e4 := ((hDd.2 h1).2.1 rfl).2
  have e21 : M 21 1 = (a : Nat) := by rw [hc.2.2.1.2.2]; exact ea
  obtain ⟨z, hzz⟩ : ∃ z : Int, z = 1 - op % 2 := ⟨_, rfl⟩
  refine m104 [fx 18, fx 8] ?_
  refine ⟨by omega, fun m hm => ?_, fun hm => by omega⟩
  have em : m = a := by omega
  rw [em]
  have fx1 : fe M 0 = fe M0 0 := by
    unfold fe
    rw [hc.2.1.1 168 (by omega), hc.2.1.1 183 (by omega)]
  refine first_Y (d := d + 4) (F := 0) (treeR_fz hT hc.2.1) hS (by rw [hc.2.1.2.2 a 0 ha3 (by decide)]; exact hE.1) (by omega) ?_
  refine ⟨by omega, ?_⟩
  rw [fx1]
  obtain ⟨P, gP⟩ : ∃ P : FM, P = um M 96 (ur (M 96) 0 (fe M0 0)) := ⟨_, rfl⟩
  have po : ∀ c : Nat, c ≠ 96 → P c = M c := fun c hc => by rw [gP, um_ne hc]
  have fP : cwF sh M P := cwF_o (fun c hc => po c (by omega)) (fun i _ _ => by rw [po 18 (by omega)])
  have N : ∀ y ∈ L, P (M0 11 y).toNat = M (M0 11 y).toNat := fun y hy => by
    obtain ⟨b, u, v, eb, -, hb3, -⟩ := nd_of hT (hP.2 y hy)
    exact po _ (by omega)
  have JP : cjS M0 P (1 - op % 2) L I0 (some rs0) := by
    refine ⟨some [], some [], ⟨cpO_F hI (po 68 (by omega)) (po 70 (by omega)) (po 71 (by omega)) (po 69 (by omega)) (po 19 (by omega)) (po 20 (by omega)), cpO_F hQ (po 72 (by omega)) (po 74 (by omega)) (po 75 (by omega)) (po 73 (by omega)) (po 88 (by omega)) (po 89 (by omega))⟩, fun y hy => by rw [N y hy, hr y hy]; omega, fun q => (by cases q), fun s hs => ?_⟩
    rw [← Option.some.inj hs]
    refine ⟨⟨rfl, rfl⟩, fun y hy => by rw [N y hy, hr y hy]; rfl, fun y => ?_⟩
    show -1 ≤ (-1 : Int) ∧ (-1 : Int) ≤ ((0 : Nat) : Int)
    omega
  have F := walk_Y (d := d) (K := K) (nx := nx) (zl := zl) (I0 := I0) hs0 101 0 0 a 0 P (some rs0) none h0L h1 ea e4 (by omega) (Or.inl rfl) (cxC_w hP hc fP) JP (by rw [gP, um_at, ur_at]) (by omega) (fun M2 y f2 _ J2 _ => ?_)
  · rw [gP] at F
    exact F
  · have c2 := cxC_w hP hc (cwF_t fP f2)
    have h17 : M2 18 17 = op := c2.2.2.2.2.1.2
    obtain ⟨sI, sQ, ⟨hI2, hQ2⟩, hr2, hn2, ho2⟩ := J2
    have T117 : b104_117 (d + 7) (fW (d + 7) kd104 K) K [some (fx 18), some (fx 8), some (hmX M0 0), some (ti ((0 + coD M0 101 0 : Nat) : Int)), y] [] (sh, M2, nx, zl) := by
      refine packsRows_Y (d := d + 6) (op := op) h17 ?_
      -- behind both
      have END : ∀ M3 M4 : FM, clF M2 M3 68 69 19 20 → clF M3 M4 72 73 88 89 → rzT M3 19 20 131072 (some I0) → (∃ t, rzO M4 88 89 65552 t) → (∀ I : List Int, sI = some I → rzO M3 19 20 131072 (apO 131072 (some I0) (clG (1 - op % 2) I 0 (pcN I.length)))) → (∀ Q : List Int, sQ = some Q → rzO M4 88 89 65552 (apO 65552 (some []) (clG (1 - op % 2) Q 0 (pcN Q.length)))) → K none (sh, M4, nx, zl) := by
        intro M3 M4 f3 f4 t3 t4 o3 o4
        have o34 : ∀ c : Nat, (c < 18 ∨ c = 21 ∨ 50 ≤ c ∧ c ≤ 63 ∨ 76 ≤ c ∧ c ≤ 87 ∨ 90 ≤ c) → M4 c = M2 c := fun c hc => by rw [f4.1 c (by omega) (by omega) (by omega) (by omega) (by omega), f3.1 c (by omega) (by omega) (by omega) (by omega) (by omega)]
        have q70 : M4 70 = M2 70 := by rw [f4.1 70 (by omega) (by omega) (by omega) (by omega) (by omega), f3.1 70 (by omega) (by omega) (by omega) (by omega) (by omega)]
        have q74 : M4 74 = M2 74 := by rw [f4.1 74 (by omega) (by omega) (by omega) (by omega) (by omega), f3.1 74 (by omega) (by omega) (by omega) (by omega) (by omega)]
        have q18 : M4 18 = M2 18 := by rw [f4.1 18 (by omega) (by omega) (by omega) (by omega) (by omega), f3.1 18 (by omega) (by omega) (by omega) (by omega) (by omega)]
        have q19 : M4 19 = M3 19 := f4.1 19 (by omega) (by omega) (by omega) (by omega) (by omega)
        have q20 : M4 20 = M3 20 := f4.1 20 (by omega) (by omega) (by omega) (by omega) (by omega)
        have w24 : cwF sh M2 M4 := cwF_o (fun c hc => o34 c (by omega)) (fun i _ _ => by rw [q18])
        have N4 : ∀ y ∈ L, M4 (M0 11 y).toNat = M2 (M0 11 y).toNat := fun y hy => by
          obtain ⟨b, u, v, eb, -, hb3, -⟩ := nd_of hT (hP.2 y hy)
          exact o34 _ (by omega)
        refine k M4 (cwF_t fP (cwF_t f2 w24)) (rzT_F t3 q19 q20) t4 ⟨by rw [q70]; exact rzO_fl hI2.1, by rw [q74]; exact rzO_fl hQ2.1⟩ (fun x hx => by rw [N4 x hx]; exact hr2 x hx) (fun q => ?_) (fun s hs => ?_)
        · rw [q70, q74]
          rcases hn2 q with e | e
          · have := hI2.1
            rw [e] at this
            exact Or.inl this.2
          · have := hQ2.1
            rw [e] at this
            exact Or.inr this.2
        · obtain ⟨⟨s1, s2⟩, s3, s4⟩ := ho2 s hs
          have rI1 := hI2.1
          have rQ1 := hQ2.1
          rw [s1] at rI1
          rw [s2] at rQ1
          obtain ⟨rb1, ri1, ri2, ri3⟩ := rI1
          obtain ⟨rb2, rq1, rq2, rq3⟩ := rQ1
          have fit : (clG (1 - op % 2) (rQ s) 0 (pcN (rQ s).length)).length ≤ 65552 := by
            have := clG_len (z := 1 - op % 2) (R := rQ s) (k := 0) (pcN (rQ s).length)
            unfold pcN at *
            omega
          have w4 := o4 _ s2
          rw [apO_fit (by show 0 + _ ≤ 65552; omega), List.nil_append] at w4
          exact ⟨⟨by rw [q70]; exact ri3, by rw [q74]; exact rq3⟩, rzO_F (o3 _ s1) q19 q20, w4, ⟨by omega, by omega⟩, fun x hx => by rw [N4 x hx]; exact s3 x hx, s4⟩
      have SEC : ∀ M3 : FM, clF M2 M3 68 69 19 20 → rzT M3 19 20 131072 (some I0) → (∀ I : List Int, sI = some I → rzO M3 19 20 131072 (apO 131072 (some I0) (clG (1 - op % 2) I 0 (pcN I.length)))) → (o_al 0 (o_get 4 5 5 (o_al 0 (o_get 4 3 3 (o_al 0 (o_callv (d + 7) 116 0 4 (o_al 0 (o_get 4 9 9 (o_ic 1 (o_callv (d + 7) 117 4 7 (o_ret K)))))))))) : FC) [some (fx 18), some (fx 8), some (hmX M0 0), some (ti ((0 + coD M0 101 0 : Nat) : Int)), y] [] (sh, M3, nx, zl) := by
        intro M3 f3 t3 o3
        have e3 : ∀ c : Nat, c ≠ 68 → c ≠ 69 → c ≠ 19 → c ≠ 20 → (c < 22 ∨ 67 < c ∨ (49 < c ∧ c < 64)) → M3 c = M2 c := f3.1
        have hQ3 : cpO M3 72 74 75 73 88 89 65552 (1 - op % 2) (some []) sQ := cpO_F hQ2 (e3 72 (by omega) (by omega) (by omega) (by omega) (by omega)) (e3 74 (by omega) (by omega) (by omega) (by omega) (by omega)) (e3 75 (by omega) (by omega) (by omega) (by omega) (by omega)) (e3 73 (by omega) (by omega) (by omega) (by omega) (by omega)) (e3 88 (by omega) (by omega) (by omega) (by omega) (by omega)) (e3 89 (by omega) (by omega) (by omega) (by omega) (by omega))
        have C3 : pkC M3 := pkC_c c2.2.2.2.1 (fun c hc => e3 c (by omega) (by omega) (by omega) (by omega) (by omega))
        refine packsRows_Y (d := d + 6) (op := op) (by rw [e3 18 (by omega) (by omega) (by omega) (by omega) (by omega)]; exact h17) ?_
        obtain ⟨rr, ⟨kq, hK, hkq⟩, ⟨t, ht, hlb⟩, h4⟩ := hQ3
        cases hsq : sQ with
        | none =>
          refine close_ov (d := d + 1) (ps72 sh) (row88 sh) (Or.inr ⟨rfl, rfl⟩) C3 z01 (by omega) rr.1 hK ht (fun M4 j f4 _ _ _ t4 => ?_)
          obtain ⟨Y, t4⟩ := t4
          exact END M3 M4 f3 f4 t3 ⟨_, t4⟩ o3 (fun Q q => by rw [hsq] at q; cases q)
        | some Q =>
          obtain ⟨b1, b2, b3⟩ := h4 Q hsq
          rw [hsq] at rr
          have l1 : M3 74 1 = Q.length := rr.2.1
          have rr1 := rr.1
          refine close_ok (d := d + 1) (t := some []) (ps72 sh) (row88 sh) (Or.inr ⟨rfl, rfl⟩) C3 z01 (by omega) rr b1 (by omega) b2 b3 (fun M4 j f4 j0 j8 p4 s4 w4 g1 g2 => ?_)
          have ej : j = pcN Q.length := by
            unfold pcN
            by_cases c : j = Q.length / 8192
            · omega
            · have := g1 (j - 1) (by omega) (by omega)
              omega
          rw [ej] at w4
          refine END M3 M4 f3 f4 t3 ⟨_, w4⟩ o3 (fun Q2 q => ?_)
          rw [hsq] at q
          rw [← Option.some.inj q]
          exact w4
      obtain ⟨rr, ⟨kq, hK, hkq⟩, ⟨t, ht, hlb⟩, h4⟩ := hI2
      cases hsi : sI with
      | none =>
        refine close_ov (d := d + 1) (ps68 sh) (row19 sh) (Or.inl ⟨rfl, rfl⟩) c2.2.2.2.1 z01 (by omega) rr.1 hK ht (fun M4 j f4 _ _ _ t4 => ?_)
        obtain ⟨Y, t4⟩ := t4
        exact SEC M4 f4 ⟨_, t4, tLB_ap hlb⟩ (fun I q => by rw [hsi] at q; cases q)
      | some I =>
        obtain ⟨b1, b2, b3⟩ := h4 I hsi
        rw [hsi] at rr
        have l1 : M2 70 1 = I.length := rr.2.1
        have rr1 := rr.1
        refine close_ok (d := d + 1) (t := some I0) (ps68 sh) (row19 sh) (Or.inl ⟨rfl, rfl⟩) c2.2.2.2.1 z01 (by omega) rr b1 (by omega) b2 b3 (fun M4 j f4 j0 j8 p4 s4 w4 g1 g2 => ?_)
        have ej : j = pcN I.length := by
          unfold pcN
          by_cases c : j = I.length / 8192
          · omega
          · have := g1 (j - 1) (by omega) (by omega)
            omega
        rw [ej] at w4
        refine SEC M4 f4 ⟨_, w4, tLB_0⟩ (fun I2 q => ?_)
        rw [hsi] at q
        rw [← Option.some.inj q]
        exact w4
    refine s104_20 (d + 7) K _ _ _ ?_
    refine ⟨by omega, fun w => T117, fun w => ?_⟩
    exact T117
end CROWS
