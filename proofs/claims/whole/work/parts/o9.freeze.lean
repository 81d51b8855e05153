/-! CALLS of both: freeze -/
theorem rsF_len {M0 : FM} {z : Int} {ids L : List Int} {x : Int} {o : Option RS} {s : RS} (h : rsF M0 z ids L x o = some s) : (rI s).length ≤ 65536 := by
  cases o with
  | none =>
    have h3 : (none : Option RS) = some s := h
    cases h3
  | some s2 =>
    have h3 : (if (lsC (ngE M0 z L s2 x) (ngT M0 z L s2 x)).length ≤ 65536 ∧ (rI s2).length + (fnB M0 z ids L s2 x).length ≤ 65536 then some (rI s2 ++ fnB M0 z ids L s2 x, lsC (ngE M0 z L s2 x) (ngT M0 z L s2 x), upP (rP s2) x (rI s2).length) else none : Option RS) = some s := h
    by_cases c : (lsC (ngE M0 z L s2 x) (ngT M0 z L s2 x)).length ≤ 65536 ∧ (rI s2).length + (fnB M0 z ids L s2 x).length ≤ 65536
    · rw [if_pos c] at h3
      rw [← Option.some.inj h3]
      show (rI s2 ++ fnB M0 z ids L s2 x).length ≤ 65536
      rw [List.length_append]
      exact c.2
    · rw [if_neg c] at h3
      cases h3
theorem fz_lI {M0 : FM} {op : Int} {B : Nat} {s : RS} (h : fzO M0 op B = some s) : (rI s).length ≤ 65536 := by
  have h2 : rsF M0 (1 - op % 2) (idL M0) (nuL M0) 0 (rsOt M0 (idL M0) (nuL M0) (dtE M0 op B (nuL M0)) (fe M0 0) (ec M0 0) (rsK M0 (rsD M0 (1 - op % 2) (idL M0) (nuL M0) (dtE M0 op B (nuL M0)) 100) (fe M0 0) (ec M0 0) (some rs0))) = some s := h
  exact rsF_len h2
theorem stC_cg {P Q : Nat → Prop} (h : ∀ i, P i ↔ Q i) (n : Nat) : stC P n = stC Q n := by
  rw [show P = Q from funext (fun i => propext (h i))]
theorem KC_of {M M2 : FM} (h : KC M) (e : ∀ c : Nat, (c = 1 ∨ c = 2 ∨ 151 ≤ c ∧ c ≤ 164 ∨ 50 ≤ c ∧ c ≤ 63) → M2 c = M c) (e0 : M2 114 0 = 0) (h8 : M2 228 0 = 0 ∧ M2 232 0 = 0) : KC M2 := by
  obtain ⟨h1, h2, h3, h4, h5, h7⟩ := h
  refine ⟨uFx_to h1 (fun c hc => e c (by omega)), fun i i0 i1 => ?_, e0, ?_, ?_, h8⟩
  · rw [e 2 (by omega)]
    exact h2 i i0 i1
  · unfold cdT
    rw [e 54 (by omega), e 55 (by omega)]
    exact h4
  · unfold cdT
    rw [e 61 (by omega), e 62 (by omega)]
    exact h5
theorem mtM_f {M M2 : FM} {f : Int → Int} {s : Int} (h : mtM M f s) (e : ∀ c : Nat, (c = 211 ∨ 238 ≤ c ∧ c ≤ 264) → M2 c = M c) (e2 : ∀ i : Int, 92 ≤ i → M2 168 i = M 168 i) : mtM M2 f s := by
  obtain ⟨⟨a1, a2, a3, a4⟩, b1, b2, b3⟩ := h
  obtain ⟨⟨⟨l1, l2, l3, l4⟩, l5, l6, l7⟩, lb, lc, lf2⟩ := a1
  unfold mtM s8M mlC ndM
  rw [e 257 (by omega), e 263 (by omega), e2 119 (by omega), e2 98 (by omega), e 211 (by omega), e 249 (by omega), e 238 (by omega), e 239 (by omega), e 241 (by omega), e 242 (by omega), e 243 (by omega), e 244 (by omega), e 245 (by omega), e 259 (by omega), e 260 (by omega), e2 92 (by omega), e2 93 (by omega), e2 94 (by omega), e2 95 (by omega)]
  exact ⟨⟨⟨⟨⟨l1, l2, l3, l4⟩, l5, l6, l7⟩, lb, lc, lf2⟩, a2, a3, a4⟩, b1, b2, b3⟩
section FREEZE
variable {L d : Nat} {xs : Nat → Int32}
theorem RR_fz {V : FM → Prop} {k nx zl : Nat} {sh : Nat → Option Shp} {M M2 : FM} (hR : RR V L xs k (sh, M, nx, zl)) (hT : treeR sh M2) (h1 : ∀ c : Nat, (c = 0 ∨ 4 ≤ c ∧ c ≤ 7 ∨ c = 169 ∨ c = 170) → M2 c = M c) (h2 : ∀ i : Int, i ≤ 26 → M2 168 i = M 168 i) (h3 : M2 3 5 = M 3 5) (hv : V M2) : RR V L xs (k + 1) (sh, M2, nx, zl) := by
  obtain ⟨hBase, ht, ho, -, -⟩ := hR
  refine ⟨baseR_up hBase (h1 0 (by omega)), ?_, ?_, hT, hv⟩
  · show tapeR M2
    unfold tapeR
    rw [h2 1 (by omega), h2 2 (by omega), h1 169 (by omega), h3, h1 4 (by omega), h1 5 (by omega)]
    exact ht
  · show outR M2
    unfold outR
    rw [h2 4 (by omega), h1 170 (by omega), h1 6 (by omega), h1 7 (by omega)]
    exact ho
theorem call_freeze {lg op wh : Int} (hlg : -2147483648 ≤ lg ∧ lg ≤ 2147483647) (hop : -2147483648 ≤ op ∧ op ≤ 2147483647) (hwh : -2147483648 ≤ wh ∧ wh ≤ 2147483647) : ca_I (VV KC WW) L xs (d + 124) 52 262 [.int (Int32.ofInt lg), .int (Int32.ofInt op), .int (Int32.ofInt wh)] := by
  intro k H hR
  obtain ⟨sh, M, nx, zl⟩ := H
  have hT : treeR sh M := hR.2.2.2.1
  obtain ⟨⟨g1, g3, g4⟩, g5, g6, g7, hK⟩ : VV KC WW M := hR.2.2.2.2
  have hC : pkC M := ⟨hK.1.1, hK.2.2.2.1, hK.2.2.2.2.1⟩
  have h228 := hK.2.2.2.2.2
  have MAIN : ∀ KK : Option TV → FH → Prop, (∀ (x : Int) (M1 : FM), M1 0 = M 0 → fm_Y (d + 124) 262 [.ref 168, .int (Int32.ofInt lg), .int (Int32.ofInt op), .int (Int32.ofInt wh)] (sh, M1, nx, zl) (fun w2 H2 => w2 = some (ti x) ∧ RR (VV KC WW) L xs (k + 1) H2) → KK (some (ti x)) (sh, M1, nx, zl)) → fm_Y (d + 124) 52 [.ref 3, .int (Int32.ofInt lg), .int (Int32.ofInt op), .int (Int32.ofInt wh)] (sh, M, nx, zl) KK := by
    intro KK kk
    refine cfreeze_Y (d := d) hT hC hlg hop hwh (fun hb => ?_) (fun M2 B rlg rop eB hB f2 hno => ?_) (fun M2 M3 B s rlg rop eB hB f2 f3 hs lT hN hrz => ?_)
    · refine kk (-1) M rfl ?_
      exact mfreeze_Y (d := d) (M0 := M) hT ⟨fun _ _ _ => rfl, fun _ _ => rfl⟩ h228.1 h228.2 hlg hop hwh (fun _ => ⟨rfl, RR_next hR⟩) (fun M2 B rlg rop => absurd hb (by omega)) (fun M2 B s rlg rop => absurd hb (by omega))
    · -- it does not fit
      refine kk (-6) M2 (f2.1 0 (by omega)) ?_
      refine mfreeze_Y (d := d) (M0 := M) hT ⟨fun c c1 c2 => f2.1 c (by omega), fun i _ => by rw [f2.1 168 (by omega)]⟩ (by rw [f2.1 228 (by omega)]; exact h228.1) (by rw [f2.1 232 (by omega)]; exact h228.2) hlg hop hwh (fun hb => absurd hb (by omega)) (fun M3 B2 _ _ eB2 _ f3 e211 e59 e228 _ => ⟨rfl, ?_⟩) (fun M3 B2 s2 _ _ eB2 _ _ _ hs2 lT2 _ _ _ _ => ?_)
      · have m3 : ∀ c : Nat, c ≠ 168 → (c < 17 ∨ 50 ≤ c ∧ c ≤ 63 ∨ 97 ≤ c ∧ c < 188 ∨ 237 < c ∧ c < 265) → M3 c = M c := fun c c1 hc => (f3.1 c c1 (by omega) (by omega)).trans (f2.1 c (by omega))
        have n3 : ∀ i : Int, (i < 28 ∨ 89 < i) → M3 168 i = M 168 i := fun i hi => by rw [f3.2 i hi, f2.1 168 (by omega)]
        have m211 : M3 211 = M 211 := by rw [e211, f2.1 211 (by omega)]
        have m59 : M3 168 59 = M 168 59 := by rw [e59, f2.1 168 (by omega)]
        refine RR_fz hR (treeR_same (treeR_fz hT f2) (fun c hc => f3.1 c (by omega) (by omega) (by omega)) (fun i _ hi => f3.2 i (by omega))) (fun c hc => m3 c (by omega) (by omega)) (fun i hi => n3 i (by omega)) (by rw [m3 3 (by omega) (by omega)]) ⟨⟨?_, ?_, ?_⟩, ?_, ?_, fun z => ?_, ?_⟩
        · rw [m3 98 (by omega) (by omega)]
          exact g1
        · rw [m3 98 (by omega) (by omega), m59]
          exact g3
        · rw [m3 99 (by omega) (by omega), m211, m59]
          exact g4
        · rw [m3 3 (by omega) (by omega), n3 90 (by omega)]
          exact g5
        · rw [m3 3 (by omega) (by omega), n3 91 (by omega)]
          exact g6
        · rw [m3 3 (by omega) (by omega)] at z
          obtain ⟨w1, w2, w3⟩ := g7 z
          unfold WW
          rw [m211, m59]
          exact ⟨w1, mtC_to w2 (fun c hc => m3 c (by omega) (by omega)), mtM_f w3 (fun c hc => by
            by_cases c2 : c = 211
            · rw [c2]
              exact m211
            · exact m3 c (by omega) (by omega)) (fun i hi => n3 i (by omega))⟩
        · refine KC_of hK (fun c hc => m3 c (by omega) (by omega)) ?_ e228
          rw [m3 114 (by omega) (by omega)]
          exact hK.2.2.1
      · have eb : B2 = B := by
          have := eB2.symm.trans eB
          omega
        rw [eb] at hs2 lT2
        exact absurd lT2 (hno s2 hs2)
    · -- it fits
      obtain ⟨X, hX⟩ : ∃ X : List Int, X = fzX M lg op wh B s := ⟨_, rfl⟩
      obtain ⟨L0, hL0⟩ : ∃ L0 : List Int, L0 = nuL M := ⟨_, rfl⟩
      rw [← hX] at hrz
      rw [← hL0] at hN
      have r0 := hrz.1
      obtain ⟨r1, r2, -⟩ : M3 98 1 = X.length ∧ sl (M3 99) 0 X.length = X ∧ M3 98 2 = 0 := hrz.2
      obtain ⟨f, hf⟩ : ∃ f : Int → Int, f = M3 99 := ⟨_, rfl⟩
      have hW := hT.1
      have bk : ftO f X.length → le f 4 4 = L0.length ∧ ∀ (i : Nat) (x : Int), L0[i]? = some x → kdQ f ((i : Int) + 1) = M 171 x ∧ (M 171 x = 1 → paF (lf (rwR (qI f))) (plf f) ((i : Int) + 1) = paN M L0 x) := fun hO => by
        rw [hL0]
        rw [hX] at r2 hO
        refine fz_back (lg := lg) (wh := wh) hT rop hB hs (f := f) (by rw [hf]; exact r2) ?_ lT (fz_lI hs) hO
        rw [← hX]
        omega
      have m3 : ∀ c : Nat, c ≠ 98 → c ≠ 99 → (c < 17 ∨ 50 ≤ c ∧ c ≤ 63 ∨ 97 ≤ c ∧ c < 265) → M3 c = M c := fun c c1 c2 hc => (f3 c c1 c2).trans (f2.1 c hc)
      have T3 : treeR sh M3 := treeR_same (treeR_fz hT f2) (fun c hc => f3 c (by omega) (by omega)) (fun i _ _ => by rw [f3 168 (by omega) (by omega)])
      obtain ⟨Pq, hPq⟩ : ∃ Pq : Nat → Prop, Pq = fun i : Nat => ∀ x : Int, L0[i]? = some x → toQ f M L0 x ((i : Int) + 1) := ⟨_, rfl⟩
      have PQ : ∀ M4 : FM, tsR M M4 → ∀ n : Nat, stC (fun i : Nat => ∀ x : Int, L0[i]? = some x → toQ f M4 L0 x ((i : Int) + 1)) n = stC Pq n := fun M4 t4 n => by
        rw [hPq]
        exact stC_cg (fun i => ⟨fun h x hx => (toQ_cg t4 f L0 x _).1 (h x hx), fun h x hx => (toQ_cg t4 f L0 x _).2 (h x hx)⟩) n
      have nu4 : ∀ M4 : FM, tsR M M4 → twR M4 → nuP M4 L0 ∧ (0 : Int) ∈ L0 ∧ (∀ x ∈ L0, ∀ t : Nat, t < ec M4 x → M4 184 (fe M4 x + t) ∈ L0) ∧ ∀ x ∈ L0, x ≠ 0 → M4 171 x = 1 → M4 178 x ∈ L0 := fun M4 t4 w4 => by
        rw [hL0, ← nuL_cg t4]
        exact ⟨nuG_P w4 2000, nuL_0 M4, nuL_cl w4, fun x hx x0 x1 => nuL_pa w4 hx x0 x1⟩
      -- the reference
      have REF : ∀ (P5 : FM) (v : Int), (∀ c : Nat, c ≠ 3 → (c < 17 ∨ 50 ≤ c ∧ c ≤ 63 ∨ 151 ≤ c ∧ c ≤ 164 ∨ 168 ≤ c ∧ c < 265) → P5 c = M c) → P5 3 5 = M 3 5 → P5 3 6 = 0 → P5 3 7 = v → P5 114 0 = 0 → P5 98 = M3 98 → P5 99 = M3 99 → treeR sh P5 → v = cif (ftO f X.length) (stC Pq L0.length) L0.length → fm_Y (d + 124) 262 [.ref 168, .int (Int32.ofInt lg), .int (Int32.ofInt op), .int (Int32.ofInt wh)] (sh, P5, nx, zl) (fun w2 H2 => w2 = some (ti (P5 98 1)) ∧ RR (VV KC WW) L xs (k + 1) H2) := by
        intro P5 v p5 p35 p36 p37 p114 p98 p99 T5 hv
        have ts5 : tsR M P5 := ⟨fun c c1 c2 => p5 c (by omega) (by omega), fun i _ => by rw [p5 168 (by omega) (by omega)]⟩
        refine mfreeze_Y (d := d) (M0 := M) hT ts5 (by rw [p5 228 (by omega) (by omega)]; exact h228.1) (by rw [p5 232 (by omega) (by omega)]; exact h228.2) hlg hop hwh (fun hb => absurd hb (by omega)) (fun M6 B2 _ _ eB2 _ f6 _ _ _ no => ?_) (fun M6 B2 s2 _ _ eB2 _ f6 z6 hs2 lT2 lX2 e59 eb6 rn6 y4 y6 y8 y9 y10 y11 y12 y13 => ?_)
        · have eb : B2 = B := by
            have := eB2.symm.trans eB
            omega
          rw [eb] at no
          exact absurd lT (no s hs)
        · have eb : B2 = B := by
            have := eB2.symm.trans eB
            omega
          rw [eb] at hs2
          have es : s2 = s := Option.some.inj (hs2.symm.trans hs)
          rw [eb, es, ← hX] at lX2 e59 eb6
          rw [← hL0] at rn6
          refine ⟨Or.inl rfl, ?_⟩
          obtain ⟨R, gR⟩ : ∃ R : FM, R = pq M6 168 91 0 := ⟨_, rfl⟩
          have ro : ∀ c : Nat, c ≠ 168 → R c = M6 c := fun c hc => by rw [gR, pq_o _ _ _ hc]
          have rn : ∀ i : Int, i ≠ 91 → R 168 i = M6 168 i := fun i hi => by rw [gR, pq_ne _ _ _ _ hi]
          have r91 : R 168 91 = 0 := by rw [gR, pq_at]
          have rm : ∀ c : Nat, c ≠ 168 → (c < 188 ∨ 203 < c) → (c < 211 ∨ 237 < c) → R c = P5 c := fun c c1 c2 c3 => (ro c c1).trans (f6.1 c c1 c2 c3)
          have rl : ∀ i : Int, i ≠ 91 → (i < 28 ∨ 89 < i) → R 168 i = M 168 i := fun i i1 i2 => by rw [rn i i1, f6.2 i i2, p5 168 (by omega) (by omega)]
          have tsR6 : tsR M R := ⟨fun c c1 c2 => (rm c (by omega) (by omega) (by omega)).trans (p5 c (by omega) (by omega)), fun i hi => rl i (by omega) (by omega)⟩
          have wR : twR R := twR_k hW tsR6.1 (fun i _ hi => tsR6.2 i hi)
          obtain ⟨n1, n2, n3, n4⟩ := nu4 R tsR6 wR
          have TR : (o_al 0 (o_callv (d + 123) 316 0 12 (o_al 0 (o_get 12 59 59 (o_iret (fun w2 H2 => w2 = some (ti (P5 98 1)) ∧ RR (VV KC WW) L xs (k + 1) H2))))) : FC) [some (fx 168), some (ti lg), some (ti op), some (ti wh), y4, none, y6, none, y8, y9, y10, y11, y12, y13] [] (sh, R, nx, zl) := by
            have e211 : R 211 = M6 211 := ro 211 (by omega)
            have ag : agr (R 211) f X.length := by
              intro i i0 i1
              rw [e211, hf]
              have := sl_inj _ _ _ (eb6.trans r2.symm) i.toNat (by omega)
              rw [show (0 : Int) + ((i.toNat : Nat) : Int) = i by omega] at this
              exact this
            have e171 : R 171 = M 171 := tsR6.1 171 (by omega) (by omega)
            have ePa : ∀ x : Int, paN R L0 x = paN M L0 x := fun x => by
              unfold paN
              rw [tsR6.1 178 (by omega) (by omega)]
            refine countAstray_Y (d := d + 112) (L := L0) (f := f) (s := X.length) rfl ag (by rw [rn 59 (by omega)]; exact e59) (by omega) wR n1 n2 n3 n4 ⟨?_, ?_, ?_⟩ (fun hO => ?_) (fun M7 f7 _ v7 => ?_)
            · rw [rn 63 (by omega)]
              exact rn6.1
            · rw [ro 213 (by omega), ro 214 (by omega)]
              exact rn6.2.1
            · rw [ro 214 (by omega), rn 5 (by omega)]
              exact rn6.2.2
            · obtain ⟨q1, q2⟩ := bk hO
              refine ⟨q1, fun i x hx => ?_⟩
              rw [e171, ePa]
              exact q2 i x hx
            · rw [PQ R tsR6, ← hv] at v7
              have s7 : ∀ c : Nat, c ≠ 168 → (c < 188 ∨ 264 < c) → M7 c = P5 c := fun c c1 c2 => (f7.1 c c1 (by omega) (by omega)).trans (rm c c1 (by omega) (by omega))
              have l7 : ∀ i : Int, i ≤ 26 → M7 168 i = M 168 i := fun i hi => (f7.2 i (by omega) (by omega)).trans (rl i (by omega) (by omega))
              have e597 : M7 168 59 = X.length := by rw [f7.2 59 (by omega) (by omega), rn 59 (by omega)]; exact e59
              have e987 : M7 98 = M3 98 := (s7 98 (by omega) (by omega)).trans p98
              have e997 : M7 99 = M3 99 := (s7 99 (by omega) (by omega)).trans p99
              have e2117 : M7 211 = M6 211 := (f7.1 211 (by omega) (by omega) (by omega)).trans e211
              refine ⟨by rw [e597, p98, r1], ?_⟩
              refine RR_fz hR (treeR_same T5 (fun c hc => s7 c (by omega) (by omega)) (fun i _ hi => by rw [l7 i hi, p5 168 (by omega) (by omega)])) (fun c hc => ?_) l7 (by rw [s7 3 (by omega) (by omega)]; exact p35) ⟨⟨?_, ?_, ?_⟩, ?_, ?_, fun z => ?_, ?_⟩
              · by_cases c2 : c < 168
                · exact (s7 c (by omega) (by omega)).trans (p5 c (by omega) (by omega))
                · exact (s7 c (by omega) (by omega)).trans (p5 c (by omega) (by omega))
              · rw [e987]
                exact r0
              · rw [e987, e597]
                exact r1
              · rw [e997, e2117, e597, Int.toNat_natCast, r2, eb6]
              · rw [s7 3 (by omega) (by omega), p37, v7]
              · rw [s7 3 (by omega) (by omega), p36, f7.2 91 (by omega) (by omega), r91]
              · rw [s7 3 (by omega) (by omega), p36] at z
                exact absurd rfl z
              · refine KC_of hK (fun c hc => (s7 c (by omega) (by omega)).trans (p5 c (by omega) (by omega))) ?_ ⟨?_, ?_⟩
                · rw [s7 114 (by omega) (by omega)]
                  exact p114
                · rw [f7.1 228 (by omega) (by omega) (by omega), ro 228 (by omega)]
                  exact z6.1
                · rw [f7.1 232 (by omega) (by omega) (by omega), ro 232 (by omega)]
                  exact z6.2
          rw [gR] at TR
          exact TR
      -- the class, behind the count
      have B152 : ∀ (M5 : FM) (v : Int), (∀ c : Nat, c ≠ 3 → (c < 17 ∨ 50 ≤ c ∧ c ≤ 63 ∨ 151 ≤ c ∧ c ≤ 164 ∨ 168 ≤ c ∧ c < 265) → M5 c = M c) → M5 3 5 = M 3 5 → M5 3 6 = 0 → M5 114 0 = 0 → M5 98 = M3 98 → M5 99 = M3 99 → treeR sh M5 → v = cif (ftO f X.length) (stC Pq L0.length) L0.length → b52_152 (d + 123) (fW (d + 123) kd52 KK) KK [some (fx 3), some (ti lg), some (ti op), some (ti wh)] [ti v, fx 3] (sh, M5, nx, zl) := by
        intro M5 v p5 p35 p36 p114 p98 p99 T5 hv
        obtain ⟨R, gR⟩ : ∃ R : FM, R = pq M5 3 7 v := ⟨_, rfl⟩
        have ro : ∀ c : Nat, c ≠ 3 → R c = M5 c := fun c hc => by rw [gR, pq_o _ _ _ hc]
        have rn : ∀ i : Int, i ≠ 7 → R 3 i = M5 3 i := fun i hi => by rw [gR, pq_ne _ _ _ _ hi]
        have r7 : R 3 7 = v := by rw [gR, pq_at]
        have F := kk (R 98 1) R ((ro 0 (by omega)).trans (p5 0 (by omega) (by omega))) (REF R v (fun c c1 c2 => (ro c c1).trans (p5 c c1 c2)) ((rn 5 (by omega)).trans p35) ((rn 6 (by omega)).trans p36) r7 (by rw [ro 114 (by omega)]; exact p114) ((ro 98 (by omega)).trans p98) ((ro 99 (by omega)).trans p99) (treeR_same T5 (fun c hc => ro c (by omega)) (fun i _ _ => by rw [ro 168 (by omega)])) hv)
        rw [gR] at F
        exact F
      refine ⟨Or.inl rfl, ?_⟩
      obtain ⟨P1, gP1⟩ : ∃ P1 : FM, P1 = pq M3 3 6 0 := ⟨_, rfl⟩
      have po : ∀ c : Nat, c ≠ 3 → P1 c = M3 c := fun c hc => by rw [gP1, pq_o _ _ _ hc]
      have pn : ∀ i : Int, i ≠ 6 → P1 3 i = M3 3 i := fun i hi => by rw [gP1, pq_ne _ _ _ _ hi]
      have p6 : P1 3 6 = 0 := by rw [gP1, pq_at]
      have p1 : ∀ c : Nat, c ≠ 3 → c ≠ 98 → c ≠ 99 → (c < 17 ∨ 50 ≤ c ∧ c ≤ 63 ∨ 97 ≤ c ∧ c < 265) → P1 c = M c := fun c h0 c1 c2 hc => (po c h0).trans (m3 c c1 c2 hc)
      have T1 : treeR sh P1 := treeR_same T3 (fun c hc => po c (by omega)) (fun i _ _ => by rw [po 168 (by omega)])
      have TT : (o_al 0 (o_al 0 (o_get 0 4 4 (o_callv (d + 123) 127 0 8 (o_if .ne (o_al 0 (o_get 0 3 3 (o_get 4 2 2 (b52_152 (d + 123) (fW (d + 123) kd52 KK) KK)))) (o_al 0 (o_callv (d + 123) 209 0 0 (b52_152 (d + 123) (fW (d + 123) kd52 KK) KK))))))) : FC) [some (fx 3), some (ti lg), some (ti op), some (ti wh)] [] (sh, P1, nx, zl) := by
        refine fault_Y (d := d + 115) (f := f) (s := X.length) (by rw [po 99 (by omega)]; exact hf.symm) (by rw [po 98 (by omega)]; exact r1) (by omega) (uFx_to hK.1 (fun c hc => p1 c (by omega) (by omega) (by omega) (by omega))) (by rw [p1 2 (by omega) (by omega) (by omega) (by omega)]; exact hK.2.1) (by rw [p1 114 (by omega) (by omega) (by omega) (by omega)]; exact hK.2.2.1) (fun M4 F4 ok4 => ?_)
        have rN := ft_r f X.length
        have m4 : ∀ c : Nat, c ≠ 3 → (c < 17 ∨ 50 ≤ c ∧ c ≤ 63 ∨ 151 ≤ c ∧ c ≤ 164 ∨ 168 ≤ c ∧ c < 265) → M4 c = M c := fun c c1 hc => (F4.1 c (by omega)).trans (p1 c c1 (by omega) (by omega) (by omega))
        have m43 : M4 3 = P1 3 := F4.1 3 (by omega)
        have m35 : M4 3 5 = M 3 5 := by rw [m43, pn 5 (by omega), m3 3 (by omega) (by omega) (by omega)]
        have m36 : M4 3 6 = 0 := by rw [m43]; exact p6
        have m114 : M4 114 0 = 0 := by rw [F4.2, p1 114 (by omega) (by omega) (by omega) (by omega)]; exact hK.2.2.1
        have m98 : M4 98 = M3 98 := (F4.1 98 (by omega)).trans (po 98 (by omega))
        have m99 : M4 99 = M3 99 := (F4.1 99 (by omega)).trans (po 99 (by omega))
        have T4 : treeR sh M4 := treeR_same T1 (fun c hc => F4.1 c (by omega)) (fun i _ _ => by rw [F4.1 168 (by omega)])
        have ts4 : tsR M M4 := ⟨fun c c1 c2 => m4 c (by omega) (by omega), fun i _ => by rw [m4 168 (by omega) (by omega)]⟩
        have m18 : M4 18 2 = L0.length := by rw [F4.1 18 (by omega), po 18 (by omega)]; exact hN.1
        refine ⟨by omega, fun w => ?_, fun w => ?_⟩
        · refine B152 M4 (M4 18 2) m4 m35 m36 m114 m98 m99 T4 ?_
          rw [cif_neg (fun q => w (ft_0.2 q))]
          exact m18
        · have hO := ft_0.1 w
          obtain ⟨n1, n2, n3, n4⟩ := nu4 M4 ts4 T4.1
          obtain ⟨q1, q2⟩ := bk hO
          refine countStray_Y (d := d + 114) (L := L0) (by omega) hO (ok4 hO) T4 n1 n3 q1 m18 (fun i x hx => ?_) (fun i x hx => ?_) (fun M5 c5 => ?_)
          · obtain ⟨u1, u2⟩ := hN.2 i x hx
            have e11 : M4 11 = M 11 := m4 11 (by omega) (by omega)
            have xL := List.mem_of_getElem? hx
            obtain ⟨a, u, v, ea, -, ha3, -⟩ := nd_of T4 (n1.2 x xL)
            rw [e11] at ea
            rw [e11]
            refine ⟨?_, ?_⟩
            · rw [F4.1 21 (by omega), po 21 (by omega)]
              exact u1
            · rw [ea, Int.toNat_natCast] at u2 ⊢
              rw [F4.1 a (by omega), po a (by omega)]
              exact u2
          · rw [ts4.1 171 (by omega) (by omega)]
            exact (q2 i x hx).1
          · rw [PQ M4 ts4]
            have c5' : ∀ c : Nat, c ≠ 19 → c ≠ 20 → c ≠ 100 → (c < 129 ∨ 150 < c) → c ≠ 165 → c ≠ 166 → M5 c = M4 c := c5
            refine B152 M5 _ (fun c c1 hc => (c5' c (by omega) (by omega) (by omega) (by omega) (by omega) (by omega)).trans (m4 c c1 hc)) ?_ ?_ ?_ ?_ ?_ (csF_T c5 T4) ?_
            · rw [c5' 3 (by omega) (by omega) (by omega) (by omega) (by omega) (by omega)]
              exact m35
            · rw [c5' 3 (by omega) (by omega) (by omega) (by omega) (by omega) (by omega)]
              exact m36
            · rw [c5' 114 (by omega) (by omega) (by omega) (by omega) (by omega) (by omega)]
              exact m114
            · rw [c5' 98 (by omega) (by omega) (by omega) (by omega) (by omega) (by omega)]
              exact m98
            · rw [c5' 99 (by omega) (by omega) (by omega) (by omega) (by omega) (by omega)]
              exact m99
            · rw [cif_pos hO]
      rw [gP1] at TT
      exact TT
  exact MAIN _ (fun x M1 e0 h => ⟨x, rfl, ⟨rfl, e0⟩, h⟩)
end FREEZE
