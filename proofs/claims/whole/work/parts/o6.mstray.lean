/-! COUNTING STRAYS: the reference -/
/-- what looking at a node leaves -/
def raX (M M2 : FM) : Prop := (∀ c : Nat, c ≠ 168 → (c < 195 ∨ 210 < c) → c ≠ 264 → M2 c = M c) ∧ ∀ i : Int, (i < 50 ∨ 57 < i ∧ i < 111 ∨ 118 < i ∧ i < 124 ∨ 129 < i) → M2 168 i = M 168 i
theorem raX_t {M M2 M3 : FM} (h : raX M M2) (g : raX M2 M3) : raX M M3 := ⟨fun c h1 h2 h3 => (g.1 c h1 h2 h3).trans (h.1 c h1 h2 h3), fun i hi => (g.2 i hi).trans (h.2 i hi)⟩
theorem raX_r (M : FM) : raX M M := ⟨fun _ _ _ _ => rfl, fun _ _ => rfl⟩
theorem raX_m {M M2 : FM} (h : moF M M2) : raX M M2 := ⟨fun c h1 _ _ => h.1 c h1, fun i hi => h.2 i (by omega)⟩
theorem raX_o {M M2 : FM} (h : oF8 M M2) : raX M M2 := ⟨fun c h1 _ _ => h.1 c h1, fun i hi => h.2 i (by omega)⟩
theorem raX_b {M M2 : FM} (h : rbF M M2) : raX M M2 := ⟨fun c h1 h2 h3 => h.1 c h1 h2 h3, fun i hi => h.2 i (by omega)⟩
section MSTRAY
variable {d nx zl : Nat} {K : Option TV → FH → Prop} {sh : Nat → Option Shp} {M : FM} {f : Int → Int} {s : Int}
theorem raX_w {M2 : FM} (h : raX M M2) (hm : mtM M f s) : mtM M2 f s := mtM_w hm (fun c hc => h.1 c (by omega) (by omega) (by omega)) (fun i hi => h.2 i (by omega))
theorem isFolder_Y {x j : Int} {L : List Int} (hs : s ≤ 131072) (hO : ftO f s) (hm : mtM M f s) (hW : twR M) (hx : 0 ≤ x ∧ x < M 168 5) (hj : 1 ≤ j ∧ j ≤ le f 4 4) (hk : kdQ f j = 1) (hnu : ∀ t : Nat, t < ec M x → M 214 (M 184 (fe M x + t)) = nuO L (M 184 (fe M x + t)) ∧ 0 ≤ nuO L (M 184 (fe M x + t)) ∧ nuO L (M 184 (fe M x + t)) ≤ 2000) (hab : (if j = rof f then rof f else paF (lf (rwR (qI f))) (plf f) j) = if x = 0 then j else M 214 (M 178 x)) (hpx : 0 < x → 0 ≤ M 178 x ∧ M 178 x < 2000) (h214 : 0 < x → 0 ≤ M 214 (M 178 x) ∧ M 214 (M 178 x) ≤ 2000)
    (k : ∀ (M2 : FM) (z : Int), raX M M2 → (z = 1 ∧ (lnK (lf (rwR (qI f))) (plf f j) = foN M (fe M x) (ec M x) + 2 ∧ entQ (lf (rwR (qL f))) (fun t => nuO L (M 184 (fe M x + t))) (fun t => nmL M (fe M x + t)) (ec M x) (lsE (rwR (qI f)) (rwS (qI f)) (rwR (qL f)) (rwS (qL f)) (hf f) (plf f j)) 0) ∨ z = 0 ∧ ¬ (lnK (lf (rwR (qI f))) (plf f j) = foN M (fe M x) (ec M x) + 2 ∧ entQ (lf (rwR (qL f))) (fun t => nuO L (M 184 (fe M x + t))) (fun t => nmL M (fe M x + t)) (ec M x) (lsE (rwR (qI f)) (rwS (qI f)) (rwR (qL f)) (rwS (qL f)) (hf f) (plf f j)) 0)) → K (some (ti z)) (sh, M2, nx, zl)) : fm_Y (d + 6) 379 [.ref 168, .int (Int32.ofInt x), .int (Int32.ofInt j)] (sh, M, nx, zl) K := by
  have hL := hm.1.1
  have lr := hL.2.2.2.2.2.1.2
  have ag := hL.2.2.2.2.2.1.1
  have hsh := (rows_r hs hO.1 hO.2.1 hO.2.2.1).2.1.1
  have nN := hW.1.1
  have n20 := hW.2.2.2.1.1
  have er := fe_r hW x
  have rr := ro_r hs hO
  obtain ⟨-, sn, -, -, -⟩ := su_B hO.1
  obtain ⟨E, b, e, li⟩ := hO.2.2.2.2.2.1 j hj.1 hj.2 hk
  have eE := lsE_eq hsh li
  rw [eE] at k
  have eop := opP_r hsh li.1
  obtain ⟨g, hg⟩ : ∃ g : Int → Int, g = lf (rwR (qI f)) := ⟨_, rfl⟩
  obtain ⟨lg, hlg⟩ : ∃ lg : Int → Int, lg = lf (rwR (qL f)) := ⟨_, rfl⟩
  obtain ⟨nu, hnu2⟩ : ∃ nu : Nat → Int, nu = fun t : Nat => nuO L (M 184 (fe M x + t)) := ⟨_, rfl⟩
  obtain ⟨nm, hnm⟩ : ∃ nm : Nat → List Int, nm = fun t : Nat => nmL M (fe M x + t) := ⟨_, rfl⟩
  rw [← hg, ← hlg, ← hnu2, ← hnm] at k
  rw [← hg] at hab
  obtain ⟨f0, hf0⟩ : ∃ f0 : Int, f0 = fe M x := ⟨_, rfl⟩
  obtain ⟨n0, hn0⟩ : ∃ n0 : Nat, n0 = ec M x := ⟨_, rfl⟩
  rw [← hf0, ← hn0] at k hnu er
  rw [← hf0] at hnu2 hnm
  have lead : ∀ t : Nat, t < n0 → 0 < M 184 (f0 + t) ∧ M 184 (f0 + t) < 2000 := fun t ht => by
    have := ent_live hW (k := f0 + t) (by omega) (by omega)
    omega
  have eM : ∀ M1 : FM, raX M M1 → (∀ c : Nat, (c < 188 ∨ c = 214) → c ≠ 168 → M1 c = M c) ∧ M1 168 20 = M 168 20 := fun M1 f1 => ⟨fun c hc h8 => f1.1 c h8 (by omega) (by omega), f1.2 20 (by omega)⟩
  -- once it is told otherwise
  have NO : ∀ (M1 : FM), raX M M1 → ¬ (lnK g (plf f j) = foN M f0 n0 + 2 ∧ entQ lg nu nm n0 E 0) → K (some (ti 0)) (sh, M1, nx, zl) := fun M1 f1 h => k M1 0 f1 (Or.inr ⟨rfl, h⟩)
  -- where the listing has ended
  have B135 : ∀ (M1 : FM) (i : Nat), raX M M1 → i ≤ n0 → (i = n0 ↔ entQ lg nu nm n0 E 0) → b379_135 (d + 5) (fW (d + 5) kd379 K) K [some (fx 168), some (ti x), some (ti j), some (ti (f0 + i)), some (ti (2 + foN M f0 i)), some (ti 1), none] [] (sh, M1, nx, zl) := by
    intro M1 i f1 hi hiff
    obtain ⟨m1, m20⟩ := eM M1 f1
    have mm := raX_w f1 hm
    have fo := foN_r M f0 i
    have B154 : b379_154 (d + 5) (fW (d + 5) kd379 K) K [some (fx 168), some (ti x), some (ti j), some (ti (f0 + i)), some (ti (2 + foN M f0 i)), some (ti 1), none] [ti (if x = 0 then j else M 214 (M 178 x))] (sh, M1, nx, zl) := by
      refine ⟨by omega, fun w => by omega, fun _ => ?_⟩
      have B205 : ¬ (lnK g (plf f j) = foN M f0 n0 + 2 ∧ entQ lg nu nm n0 E 0) → b379_205 (d + 5) (fW (d + 5) kd379 K) K [some (fx 168), some (ti x), some (ti j), some (ti (f0 + i)), some (ti (2 + foN M f0 i)), some (ti 1), some (ti (if x = 0 then j else M 214 (M 178 x)))] [] (sh, M1, nx, zl) := fun h => ⟨Or.inl rfl, NO M1 f1 h⟩
      have B179 : i = n0 → b379_179 (d + 5) (fW (d + 5) kd379 K) K [some (fx 168), some (ti x), some (ti j), some (ti (f0 + i)), some (ti (2 + foN M f0 i)), some (ti 1), some (ti (if x = 0 then j else M 214 (M 178 x)))] [] (sh, M1, nx, zl) := by
        intro ei
        refine linksOf_Y (d := d + 1) mm.1.1 hj (fun lk => ?_)
        rw [← hg] at lk ⊢
        refine ⟨by omega, ?_⟩
        refine ⟨by omega, fun w => B205 (fun q => w (by rw [ei]; omega)), fun w => ?_⟩
        refine parentNumber_Y (d := d + 1) mm.1.1 mm.2.2.1 (by omega) hj hk ?_
        rw [← hg, hab]
        have pr : 0 ≤ (if x = 0 then j else M 214 (M 178 x)) ∧ (if x = 0 then j else M 214 (M 178 x)) ≤ 5000 := by
          by_cases x0 : x = 0
          · rw [if_pos x0]
            omega
          · rw [if_neg x0]
            have := h214 (by omega)
            omega
        refine ⟨by omega, fun w2 => absurd rfl w2, fun _ => ⟨Or.inr rfl, k M1 1 f1 (Or.inl ⟨rfl, ?_, hiff.1 ei⟩)⟩⟩
        rw [ei] at w
        omega
      by_cases ei : i = n0
      · have out : ∀ q : Int, f0 + i ≠ M 168 20 → M 183 (f0 + i) ≠ x := fun _ q1 q2 => by
          have := fe_out hW (F := x) (k := f0 + i) (by omega) (by omega) q2
          omega
        refine ⟨by omega, fun w => B179 ei, fun w => ?_⟩
        have v183 : M1 183 (f0 + i) = M 183 (f0 + i) := by rw [m1 183 (by omega) (by omega)]
        have tE := (hW.2.2.2.1.2 (f0 + i) (by omega) (by omega)).1
        refine ⟨by omega, ?_⟩
        refine ⟨by omega, fun w2 => absurd (by omega) (out 0 (by omega)), fun w2 => B179 ei⟩
      · have v183 : M1 183 (f0 + i) = x := by
          rw [m1 183 (by omega) (by omega)]
          exact fe_in hW (by omega) (by omega)
        refine ⟨by omega, fun w => by omega, fun w => ?_⟩
        refine ⟨by omega, ?_⟩
        refine ⟨by omega, fun w2 => B205 (fun q => ei (hiff.2 q.2)), fun w2 => absurd v183 w2⟩
    by_cases x0 : x = 0
    · rw [if_pos x0] at B154
      exact ⟨by omega, fun w => absurd x0 w, fun _ => B154⟩
    · rw [if_neg x0] at B154
      have px := hpx (by omega)
      have v178 : M1 178 x = M 178 x := by rw [m1 178 (by omega) (by omega)]
      have v214 : M1 214 (M1 178 x) = M 214 (M 178 x) := by rw [v178, m1 214 (by omega) (by omega)]
      refine ⟨by omega, fun _ => ?_, fun w => absurd w x0⟩
      refine ⟨by omega, ?_⟩
      refine ⟨by omega, ?_⟩
      rw [v214]
      exact B154
  have WALK : ∀ (E2 : List (Int × Int)) (i : Nat) (M1 : FM) (al l hd : Int), i ≤ n0 → raX M M1 → (M1 168 112 = e ∧ M1 168 116 = al ∧ M1 168 117 = l) → (l ≠ 0 → M1 168 118 = hd ∧ 0 ≤ hd ∧ hd + 12 ≤ e) → (0 ≤ al ∧ al ≤ e) → (0 ≤ l ∧ l ≤ 256) → wkL (rwS (qI f)) lg e al l hd E2 → (∀ q ∈ E2, 1 ≤ chd lg q.1 q.2 ∧ chd lg q.1 q.2 ≤ 4096) → (entQ lg nu nm n0 E2 i ↔ entQ lg nu nm n0 E 0) → fm_X (d + 5) kd379 16 [some (fx 168), some (ti x), some (ti j), some (ti (f0 + i)), some (ti (2 + foN M f0 i)), some (ti 1), none] [] (sh, M1, nx, zl) K := by
    intro E2
    induction E2 with
    | nil =>
      intro i M1 al l hd hi f1 hv hh hal hl hE2 hch hiff
      obtain ⟨x1, x2⟩ : al = e ∧ l = 0 := hE2
      refine s379_16 (d + 5) K _ _ _ ?_
      refine ⟨by omega, fun w => by omega, fun _ => ?_⟩
      refine nextEnd_Y (d := d + 2) (a := e) hv.1 (by omega) (by omega) ?_
      exact ⟨by omega, fun _ => B135 M1 i f1 hi hiff, fun w => absurd rfl w⟩
    | cons q E2 ih =>
      intro i M1 al l hd hi f1 hv hh hal hl hE2 hch hiff
      obtain ⟨hd2, a3⟩ := q
      obtain ⟨l2, n1, n2, n3⟩ := hE2
      dsimp only at n1 n2 n3
      have l6 := le_nn lg 2 (a3 + 6)
      have E1 := n2.1
      have E1b := n2.2
      have na := nxH_r n1
      have hl2 : 1 ≤ l2 ∧ l2 ≤ 256 := by
        rcases n1 with z | z
        · omega
        · have z2 := z.2.1.2.1
          have z3 := le_nn lg 4 al
          omega
      have hd0 : 0 ≤ hd2 ∧ hd2 + 12 ≤ e := by
        rcases n1 with z | z
        · have := hh z.1
          omega
        · have z1 := z.2.1.1
          omega
      have mm := raX_w f1 hm
      have hc0 : 1 ≤ chd lg hd2 a3 ∧ chd lg hd2 a3 ≤ 4096 := hch (hd2, a3) List.mem_cons_self
      refine s379_16 (d + 5) K _ _ _ ?_
      refine ⟨by omega, fun w => by omega, fun _ => ?_⟩
      rw [hlg] at n1 n2
      refine nextEntry_Y (d := d + 2) (hd := hd) mm.1.1 hv.1 hv.2.1 hv.2.2 hh (by omega) (by omega) hl n1 n2 (fun M3 F3 g1 g2 g3 => ?_)
      rw [← hlg] at n1 n2 g2 g3
      have f3 := raX_t f1 (raX_m F3)
      obtain ⟨m3, m20⟩ := eM M3 f3
      refine ⟨by omega, fun w => by omega, fun _ => ?_⟩
      have NX0 : ¬ (i < n0 ∧ chd lg hd2 a3 = nu i ∧ nmS lg a3 = nm i) → b379_101 (d + 5) (fW (d + 5) kd379 K) K [some (fx 168), some (ti x), some (ti j), some (ti (f0 + i)), some (ti (2 + foN M f0 i)), some (ti 1), none] [] (sh, M3, nx, zl) := fun h => ⟨Or.inl rfl, NO M3 f3 (fun q => h (hiff.2 q.2).1)⟩
      by_cases ei : i = n0
      · refine ⟨by omega, fun w => NX0 (fun q => by omega), fun w => ?_⟩
        have v183 : M3 183 (f0 + i) = M 183 (f0 + i) := by rw [m3 183 (by omega) (by omega)]
        have tE := (hW.2.2.2.1.2 (f0 + i) (by omega) (by omega)).1
        refine ⟨by omega, ?_⟩
        refine ⟨by omega, fun w2 => NX0 (fun q => by omega), fun w2 => ?_⟩
        have := fe_out hW (F := x) (k := f0 + i) (by omega) (by omega) (by omega)
        omega
      · have inn : i < n0 := by omega
        have v183 : M3 183 (f0 + i) = x := by
          rw [m3 183 (by omega) (by omega)]
          exact fe_in hW (by omega) (by omega)
        have ld := lead i inn
        have v184 : M3 184 (f0 + i) = M 184 (f0 + i) := by rw [m3 184 (by omega) (by omega)]
        have nq := hnu i inn
        have v214 : M3 214 (M3 184 (f0 + i)) = nu i := by rw [v184, m3 214 (by omega) (by omega), nq.1, hnu2]
        have nur : 0 ≤ nu i ∧ nu i ≤ 2000 := by
          rw [hnu2]
          exact ⟨nq.2.1, nq.2.2⟩
        refine ⟨by omega, fun w => by omega, fun w => ?_⟩
        refine ⟨by omega, ?_⟩
        refine ⟨by omega, fun w2 => absurd v183 w2, fun _ => ?_⟩
        refine ⟨by omega, ?_⟩
        refine ⟨by omega, ?_⟩
        rw [v214]
        refine ⟨by omega, fun w2 => NX0 (fun q => w2 (by rw [g2.1]; exact q.2.1.symm)), fun w2 => ?_⟩
        have tE := (hW.2.2.2.1.2 (f0 + i) (by omega) (by omega)).2.2.1
        have v185 : M3 185 (f0 + i) = M 185 (f0 + i) := by rw [m3 185 (by omega) (by omega)]
        have v186 : M3 186 (f0 + i) = M 186 (f0 + i) := by rw [m3 186 (by omega) (by omega)]
        have v187 : M3 187 = M 187 := m3 187 (by omega) (by omega)
        have v171 : M3 171 (M3 184 (f0 + i)) = M 171 (M 184 (f0 + i)) := by rw [v184, m3 171 (by omega) (by omega)]
        refine ⟨by omega, ?_⟩
        refine ⟨by omega, ?_⟩
        refine morder_I (d := d + 4) (a := 187) (na := 32768) (b := 245) (nb := 65536) rfl rfl (by omega) (by omega) (by omega) (by omega) (by omega) (by omega) (by omega) (by omega) ?_
        have eA : sl (M3 187) (M3 185 (f0 + i)) (M3 186 (f0 + i)).toNat = nm i := by
          rw [v185, v186, v187, hnm]
          rfl
        have eB : sl (M3 245) (M3 168 114) (M3 168 115).toNat = nmS lg a3 := by
          rw [g2.2.1, g2.2.2, f3.1 245 (by omega) (by omega) (by omega)]
          unfold nmS
          rw [hlg]
          rw [hlg] at l6 E1 E1b
          exact sl_agr ag (by omega) (by omega)
        have oq := ordL_eq (nm i) (nmS lg a3)
        have orr := ordL_sl (M3 187) (M3 245) (M3 185 (f0 + i)) (M3 168 114) (M3 186 (f0 + i)).toNat (M3 168 115).toNat
        rw [eA, eB] at orr ⊢
        refine ⟨by omega, fun w3 => ?_, fun w3 => NX0 (fun q => w3 (oq.2 q.2.2.symm))⟩
        have F := ih (i + 1) M3 (a3 + 9 + le lg (a3 + 6) 2) (l2 - 1) hd2 (by omega) f3 ⟨g1.2, g3.1, g3.2.1⟩ (fun _ => ⟨g3.2.2, hd0.1, hd0.2⟩) (by omega) (by omega) n3 (fun q hq => hch q (List.mem_cons_of_mem _ hq)) ⟨fun q => hiff.1 ⟨⟨inn, by show chd lg hd2 a3 = nu i; omega, (oq.1 w3).symm⟩, q⟩, fun q => (hiff.2 q).2⟩
        have eL := ent_live hW (k := f0 + i) (by omega) (by omega)
        have kt := (hW.1.2 (M 184 (f0 + i)) (by omega) eL.1.2).1
        have es : foN M f0 (i + 1) = foN M f0 i + (if M 171 (M 184 (f0 + i)) = 1 then 1 else 0) := rfl
        rw [es, show f0 + ((i + 1 : Nat) : Int) = f0 + i + 1 by omega] at F
        refine ⟨by omega, ?_⟩
        refine ⟨by omega, ?_⟩
        refine ⟨by omega, fun w4 => ?_, fun w4 => ?_⟩
        · rw [if_neg (by omega), Int.add_zero] at F
          exact F
        · rw [if_pos (by omega), ← Int.add_assoc] at F
          exact F
  refine m379 [fx 168, ti x, ti j] ?_
  refine firstEntry_Y (d := d + 4) hW (by omega) ?_
  rw [← hf0]
  refine openListing_Y (d := d) hL hj hk (fun M2 F2 no => absurd li.1 (no b e)) (fun M2 b2 e2 F2 hop hv => ?_)
  obtain ⟨x1, x2⟩ := opP_one hsh li.1 hop
  rw [x1, x2] at hv
  obtain ⟨v1, v2, v3, v4⟩ := hv
  have hch : ∀ q ∈ E, 1 ≤ chd lg q.1 q.2 ∧ chd lg q.1 q.2 ≤ 4096 := fun q hq => by
    rw [hlg]
    obtain ⟨y, -, y2, -⟩ := li.2.1.2 q hq
    have := (hL.2.1.2 y y2.1).2.1
    omega
  have F := WALK E 0 M2 b 0 0 (by omega) (raX_m F2) ⟨v2, v3, v4⟩ (fun q => absurd rfl q) (by omega) (by omega) (by rw [hlg]; exact li.2.1.1) hch Iff.rfl
  rw [show f0 + ((0 : Nat) : Int) = f0 by omega, show (2 : Int) + foN M f0 0 = 2 from rfl] at F
  exact F
end MSTRAY
