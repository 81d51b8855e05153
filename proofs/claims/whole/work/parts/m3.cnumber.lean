/-! FREEZING: numbers; the class -/
def nuX (L : List Int) (x : Int) : List Int := if x ∈ L then L else L ++ [x]
/-- the class's numbers -/
def cnU (M : FM) (L : List Int) : Prop := M 18 2 = L.length ∧ (∀ (i : Nat) (x : Int), L[i]? = some x → M 21 ((i : Int) + 1) = M 11 x ∧ M (M 11 x).toNat 14 = (i : Int) + 1) ∧ ∀ x : Int, 0 ≤ x → x < M 168 5 → live M x → x ∉ L → M (M 11 x).toNat 14 = 0
def g57 (M M2 : FM) (a : Nat) : Prop := (∀ c : Nat, c ≠ 18 → c ≠ 21 → c ≠ a → M2 c = M c) ∧ (∀ i : Int, i ≠ 2 → M2 18 i = M 18 i) ∧ ∀ i : Int, i ≠ 14 → M2 a i = M a i
/-- what numbering leaves -/
def nzF (sh : Nat → Option Shp) (M M2 : FM) : Prop := (∀ c : Nat, c ≠ 18 → c ≠ 21 → c ≠ 17 → (265 ≤ c → ∀ fl, shp sh c ≠ some (.inr (3, fl))) → M2 c = M c) ∧ (∀ i : Int, i ≠ 2 → M2 18 i = M 18 i) ∧ ∀ (c : Nat) (i : Int), (c = 17 ∨ 265 ≤ c) → i ≠ 14 → i ≠ 15 → M2 c i = M c i
theorem nzF_r (sh : Nat → Option Shp) (M : FM) : nzF sh M M := ⟨fun _ _ _ _ _ => rfl, fun _ _ => rfl, fun _ _ _ _ _ => rfl⟩
theorem nzF_t {sh : Nat → Option Shp} {M M2 M3 : FM} (h : nzF sh M M2) (g : nzF sh M2 M3) : nzF sh M M3 := ⟨fun c h1 h2 h3 h4 => (g.1 c h1 h2 h3 h4).trans (h.1 c h1 h2 h3 h4), fun i hi => (g.2.1 i hi).trans (h.2.1 i hi), fun c i h1 h2 h3 => (g.2.2 c i h1 h2 h3).trans (h.2.2 c i h1 h2 h3)⟩
theorem nzF_fz {sh : Nat → Option Shp} {M M2 : FM} (h : nzF sh M M2) : fzF sh M M2 := ⟨fun c hc => h.1 c (by omega) (by omega) (by omega) (fun q => by omega), fun c hc hf => h.1 c (by omega) (by omega) (by omega) (fun _ => hf), fun c i hc hi => h.2.2 c i hc (by omega) (by omega)⟩
theorem g57_nz {sh : Nat → Option Shp} {M M2 : FM} {a : Nat} {fl : List (Option (Option Nat))} (hS : shp sh a = some (.inr (3, fl))) (ha : a = 17 ∨ 265 ≤ a) (h : g57 M M2 a) : nzF sh M M2 := by
  refine ⟨fun c h1 h2 h3 h4 => h.1 c h1 h2 (fun e => ?_), h.2.1, fun c i h1 h2 h3 => ?_⟩
  · rcases ha with z | z
    · omega
    · exact h4 (by omega) fl (by rw [e]; exact hS)
  · by_cases e : c = a
    · rw [e]
      exact h.2.2 i h2
    · rw [h.1 c (by omega) (by omega) e]
section CNUM
variable {d nx zl : Nat} {K : Option TV → FH → Prop} {sh : Nat → Option Shp} {M : FM}
/-- a live node's cell -/
theorem nd_of (hT : treeR sh M) {x : Int} (hx : (0 ≤ x ∧ x < M 168 5) ∧ live M x) : ∃ (a : Nat) (h t : Option Nat), M 11 x = a ∧ shp sh a = some (.inr (3, nodeFl h t)) ∧ (a = 17 ∨ 265 ≤ a) ∧ ndE M x a ∧ ndF M x a ∧ ndL sh M x t ∧ ndD M x a h := by
  obtain ⟨a, ha, h, t, hS, hE, hF, hL, hD⟩ := (hT.2.2.1 x hx.1.1 hx.1.2).1 hx.2
  exact ⟨a, h, t, ha, hS.1, hS.2, hE, hF, hL, hD⟩
theorem ndc_inj (hT : treeR sh M) {x y : Int} (hx : (0 ≤ x ∧ x < M 168 5) ∧ live M x) (hy : (0 ≤ y ∧ y < M 168 5) ∧ live M y) (h : (M 11 x).toNat = (M 11 y).toNat) : x = y := by
  obtain ⟨a, _, _, ea, _, _, hE, _⟩ := nd_of hT hx
  obtain ⟨b, _, _, eb, _, _, hE2, _⟩ := nd_of hT hy
  have e : a = b := by omega
  rw [e] at hE
  have e1 := hE.1
  have e2 := hE2.1
  omega
theorem giveNumber_Y {x : Int} {a : Nat} {L : List Int} (hT : treeR sh M) (hx : (0 ≤ x ∧ x < M 168 5) ∧ live M x) (ha : M 11 x = a) (hP : nuP M L) (hU : cnU M L) (k : ∀ M2 : FM, g57 M M2 a → cnU M2 (nuX L x) → K none (sh, M2, nx, zl)) : fm_Y (d + 1) 57 [.ref 18, .ref a] (sh, M, nx, zl) K := by
  obtain ⟨a2, h9, t9, ea, hS, ha3, -⟩ := nd_of hT hx
  have e2 : a2 = a := by omega
  rw [e2] at hS ha3
  obtain ⟨u1, u2, u3⟩ := hU
  have et : (M 11 x).toNat = a := by omega
  refine m57 [fx 18, gr a] ?_
  refine ⟨_, hS, ?_⟩
  by_cases c : x ∈ L
  · obtain ⟨i, hi⟩ := List.getElem?_of_mem c
    have v := (u2 i x hi).2
    have il := (List.getElem?_eq_some_iff.1 hi).1
    have pl := nuP_len hT.1 hP
    rw [et] at v
    refine ⟨by omega, fun w => ?_, fun w => absurd (show M a 14 = 0 from w) (by omega)⟩
    have e : nuX L x = L := if_pos c
    exact k M ⟨fun _ _ _ _ => rfl, fun _ _ => rfl, fun _ _ => rfl⟩ (by rw [e]; exact ⟨u1, u2, u3⟩)
  · have v := u3 x hx.1.1 hx.1.2 hx.2 c
    rw [et] at v
    have e : nuX L x = L ++ [x] := if_neg c
    have P2 := nuP_add hP hx c
    have pl := nuP_len hT.1 P2
    have ll : (L ++ [x]).length = L.length + 1 := by
      rw [List.length_append]
      rfl
    rw [ll] at pl
    refine ⟨by omega, fun w => absurd v w, fun _ => ?_⟩
    refine ⟨by omega, fun w => by omega, fun _ => ?_⟩
    obtain ⟨Q1, g1⟩ : ∃ Q1 : FM, Q1 = pq M 18 2 (M 18 2 + 1) := ⟨_, rfl⟩
    have q1 : Q1 18 2 = (L.length : Int) + 1 := by rw [g1, pq_at, u1]
    have q1o : ∀ c : Nat, c ≠ 18 → Q1 c = M c := fun c hc => by rw [g1, pq_o _ _ _ hc]
    obtain ⟨Q2, g2⟩ : ∃ Q2 : FM, Q2 = pq Q1 a 14 (Q1 18 2) := ⟨_, rfl⟩
    have q2o : ∀ c : Nat, c ≠ 18 → c ≠ a → Q2 c = M c := fun c h1 h2 => by rw [g2, pq_o _ _ _ h2, q1o c h1]
    have q2a : Q2 a 14 = (L.length : Int) + 1 := by rw [g2, pq_at, q1]
    have q2n : ∀ i : Int, i ≠ 14 → Q2 a i = M a i := fun i hi => by rw [g2, pq_ne _ _ _ _ hi, q1o a (by omega)]
    have q2e : Q2 18 2 = (L.length : Int) + 1 := by rw [g2, pq_o _ _ _ (by omega), q1]
    have q2f : ∀ i : Int, i ≠ 2 → Q2 18 i = M 18 i := fun i hi => by rw [g2, pq_o _ _ _ (by omega), g1, pq_ne _ _ _ _ hi]
    have T2 : (o_al 0 (o_get 4 1 1 (o_al 0 (o_get 4 2 2 (o_al 1 (o_aast (b57_45 d (fW d kd57 K) K)))))) : FC) [some (fx 18), some (gr a)] [] (sh, Q2, nx, zl) := by
      refine ⟨by omega, rok_3 rfl hS, ?_⟩
      obtain ⟨Q3, g3⟩ : ∃ Q3 : FM, Q3 = pq Q2 21 (Q2 18 2) a := ⟨_, rfl⟩
      have q3o : ∀ c : Nat, c ≠ 21 → Q3 c = Q2 c := fun c hc => by rw [g3, pq_o _ _ _ hc]
      have q3n : ∀ i : Int, i ≠ (L.length : Int) + 1 → Q3 21 i = M 21 i := fun i hi => by rw [g3, pq_ne _ _ _ _ (by omega), q2o 21 (by omega) (by omega)]
      have q3e : Q3 21 ((L.length : Int) + 1) = a := by rw [g3, q2e, pq_at]
      have q11 : Q3 11 = M 11 := by rw [q3o 11 (by omega), q2o 11 (by omega) (by omega)]
      have q168 : Q3 168 = M 168 := by rw [q3o 168 (by omega), q2o 168 (by omega) (by omega)]
      have q177 : Q3 177 = M 177 := by rw [q3o 177 (by omega), q2o 177 (by omega) (by omega)]
      have ot : ∀ y : Int, (0 ≤ y ∧ y < M 168 5) ∧ live M y → y ≠ x → Q3 (M 11 y).toNat = M (M 11 y).toNat := by
        intro y hy hyx
        obtain ⟨b, _, _, eb, _, hb, _⟩ := nd_of hT hy
        have ne : (M 11 y).toNat ≠ a := fun q => hyx (ndc_inj hT hy hx (by omega))
        rw [q3o _ (by omega), q2o _ (by omega) ne]
      have F := k Q3 ⟨fun c h1 h2 h3 => by rw [q3o c h2, q2o c h1 h3], fun i hi => by rw [q3o 18 (by omega), q2f i hi], fun i hi => by rw [q3o a (by omega), q2n i hi]⟩ (by
        rw [e]
        refine ⟨?_, fun i y hy => ?_, fun y y0 y1 y2 y3 => ?_⟩
        · rw [q3o 18 (by omega), q2e, ll]
          rfl
        · rw [apG] at hy
          rw [q11]
          by_cases ci : i < L.length
          · rw [if_pos ci] at hy
            have ym : y ∈ L := List.mem_of_getElem? hy
            rw [q3n _ (by omega), ot y (hP.2 y ym) (fun q => c (by rw [← q]; exact ym))]
            exact u2 i y hy
          · rw [if_neg ci] at hy
            by_cases ci2 : i = L.length
            · rw [if_pos ci2] at hy
              injection hy with hy
              rw [← hy, ci2, q3e, et, q3o a (by omega), q2a]
              exact ⟨ha.symm, rfl⟩
            · rw [if_neg ci2] at hy
              cases hy
        · rw [q168] at y1
          have lv : live M y := by
            unfold live at y2 ⊢
            rw [q177] at y2
            exact y2
          rw [q11, ot y ⟨⟨y0, y1⟩, lv⟩ (fun q => y3 (List.mem_append.2 (Or.inr (by rw [q]; exact List.mem_singleton_self _))))]
          exact u3 y y0 y1 lv (fun q => y3 (List.mem_append.2 (Or.inl q))))
      rw [g3] at F
      exact F
    have T1 : (o_al 1 (o_al 0 (o_get 4 2 2 (o_put 3 14 14 (o_al 0 (o_get 4 1 1 (o_al 0 (o_get 4 2 2 (o_al 1 (o_aast (b57_45 d (fW d kd57 K) K)))))))))) : FC) [some (fx 18), some (gr a)] [] (sh, Q1, nx, zl) := by
      refine ⟨_, ⟨by omega, hS, rfl⟩, ?_⟩
      rw [g2] at T2
      exact T2
    rw [g1] at T1
    exact T1
theorem numberNodes_Y (hT : treeR sh M) (k : ∀ M2 : FM, nzF sh M M2 → cnU M2 (nuL M) → (∀ x : Int, (0 ≤ x ∧ x < M 168 5) ∧ live M x → M2 (M 11 x).toNat 15 = -1) → K none (sh, M2, nx, zl)) : fm_Y (d + 4) 56 [.ref 18, .ref 8] (sh, M, nx, zl) K := by
  have hN := hT.1.1.1
  have hA := hT.2.1.1
  have hE20 := hT.1.2.2.2.1.1
  -- the second loop
  have KEEP : ∀ M1 : FM, nzF sh M M1 → (M1 11 = M 11 ∧ M1 168 = M 168 ∧ M1 177 = M 177 ∧ M1 13 = M 13 ∧ M1 8 = M 8) ∧ (∀ x, live M1 x = live M x) ∧ ∀ L, nuP M1 L = nuP M L := by
    intro M1 f
    have a1 := f.1 11 (by omega) (by omega) (by omega) (fun q => by omega)
    have a2 := f.1 168 (by omega) (by omega) (by omega) (fun q => by omega)
    have a3 := f.1 177 (by omega) (by omega) (by omega) (fun q => by omega)
    have a4 := f.1 13 (by omega) (by omega) (by omega) (fun q => by omega)
    have a5 := f.1 8 (by omega) (by omega) (by omega) (fun q => by omega)
    have l : ∀ x, live M1 x = live M x := fun x => by unfold live; rw [a3]
    exact ⟨⟨a1, a2, a3, a4, a5⟩, l, fun L => by unfold nuP; rw [a2]; simp only [l]⟩
  have LOOP : ∀ (N k1 : Nat) (M1 : FM) (y3 y4 y5 : Option TV), 2001 - k1 < N → k1 ≤ (nuG M k1).length → nzF sh M M1 → cnU M1 (nuG M k1) → (∀ x : Int, (0 ≤ x ∧ x < M 168 5) ∧ live M x → M1 (M 11 x).toNat 15 = -1) → fm_X (d + 3) kd56 64 [some (fx 18), some (fx 8), some (ti ((k1 : Int) + 1)), y3, y4, y5] [] (sh, M1, nx, zl) K := by
    intro N
    induction N with
    | zero =>
      intro k1 M1 y3 y4 y5 hN2 hk
      have := nuP_len hT.1 (nuG_P hT.1 k1)
      omega
    | succ N ih =>
      intro k1 M1 y3 y4 y5 hN2 hk f1 U1 R1
      obtain ⟨⟨a1, a2, a3, a4, a5⟩, lv, np⟩ := KEEP M1 f1
      have P1 := nuG_P hT.1 k1
      have pl := nuP_len hT.1 P1
      refine s56_64 (d + 3) K _ _ _ ?_
      have u1 := U1.1
      refine ⟨by omega, fun w => ?_, fun w => ?_⟩
      · have e : nuL M = nuG M k1 := nuL_at hT.1 (by omega)
        exact k M1 f1 (by rw [e]; exact U1) R1
      · have hk2 : k1 < (nuG M k1).length := by omega
        obtain ⟨x, hx⟩ : ∃ x, (nuG M k1)[k1]? = some x := ⟨_, List.getElem?_eq_getElem hk2⟩
        have xm := List.mem_of_getElem? hx
        have xl := P1.2 x xm
        have v := (U1.2.1 k1 x hx).1
        have hT1 := treeR_fz hT (nzF_fz f1)
        obtain ⟨a, h9, t9, ea, hS, ha3, hE, -⟩ := nd_of hT xl
        rw [a1, ea] at v
        refine ⟨by omega, fun m hm => ?_, fun hm => by omega⟩
        have em : m = a := by omega
        rw [em]
        have ka : ∀ i : Int, i < 14 → M1 a i = M a i := fun i hi => f1.2.2 a i ha3 (by omega) (by omega)
        have fx1 : fe M1 x = fe M x := by
          unfold fe
          rw [a2, f1.1 183 (by omega) (by omega) (by omega) (fun q => by omega)]
        refine first_Y (d := d) (F := x) hT1 hS (by rw [ka 0 (by decide)]; exact hE.1) (by omega) ?_
        rw [fx1]
        have er := fe_r hT.1 x
        have hEc : M a 10 = (ec M x : Nat) := by
          have q1 := hE.2.2.2.2.2.2.2.2
          have q2 := (cnt_nn (M 183) x (M 168 20).toNat).1
          unfold ec
          omega
        have INN : ∀ (N2 j : Nat) (M2 : FM), ec M x - j < N2 → j ≤ ec M x → nzF sh M M2 → cnU M2 (nuA M (nuG M k1) (fe M x) j) → (∀ x : Int, (0 ≤ x ∧ x < M 168 5) ∧ live M x → M2 (M 11 x).toNat 15 = -1) → fm_X (d + 3) kd56 90 [some (fx 18), some (fx 8), some (ti ((k1 : Int) + 1)), some (gr a), some (ti (fe M x)), some (ti (fe M x + j))] [] (sh, M2, nx, zl) K := by
          intro N2
          induction N2 with
          | zero =>
            intro j M2 hN3
            omega
          | succ N2 ih2 =>
            intro j M2 hN3 hj f2 U2 R2
            obtain ⟨⟨b1, b2, b3, b4, b5⟩, lv2, np2⟩ := KEEP M2 f2
            have kb : ∀ i : Int, i < 14 → M2 a i = M a i := fun i hi => f2.2.2 a i ha3 (by omega) (by omega)
            have c10 : M2 a 10 = (ec M x : Nat) := by rw [kb 10 (by decide), hEc]
            refine s56_90 (d + 3) K _ _ _ ?_
            refine ⟨_, hS, ?_⟩
            refine ⟨by omega, fun w => ?_, fun w => ?_⟩
            · have ej : j = ec M x := by omega
              rw [ej] at U2
              have eg : nuG M (k1 + 1) = nuA M (nuG M k1) (fe M x) (ec M x) := by
                show (match (nuG M k1)[k1]? with
                  | none => nuG M k1
                  | some x => nuA M (nuG M k1) (fe M x) (ec M x)) = _
                rw [hx]
              rw [← eg] at U2
              have gl : k1 + 1 ≤ (nuG M (k1 + 1)).length := by
                obtain ⟨Y, hY⟩ := nuA_pre M (nuG M k1) (fe M x) (ec M x)
                rw [eg, hY, List.length_append]
                omega
              exact ih (k1 + 1) M2 _ _ _ (by omega) gl f2 U2 R2
            · have cl := ent_live hT.1 (k := fe M x + j) (by omega) (by omega)
              have ce := (hT.2.2.2.1 (fe M x + j) (by omega) (by omega)).2.1
              obtain ⟨b, h8, t8, eb, hSb, hb3, -⟩ := nd_of hT ⟨⟨by omega, cl.1.2⟩, cl.2⟩
              have PA := nuA_P hT.1 P1 er.1 j (by omega)
              refine ⟨by omega, fun m2 hm2 => ?_, fun hm2 => by rw [b4] at hm2; omega⟩
              rw [b4] at hm2
              have em2 : m2 = b := by omega
              rw [em2]
              refine giveNumber_Y (x := M 184 (fe M x + j)) (treeR_fz hT (nzF_fz f2)) ⟨by rw [b2]; omega, by rw [lv2]; exact cl.2⟩ (by rw [b1]; exact eb) (by rw [np2]; exact PA) U2 (fun M3 g3 U3 => ?_)
              have f3 := nzF_t f2 (g57_nz hSb hb3 g3)
              have F := ih2 (j + 1) M3 (by omega) (by omega) f3 U3 (fun y hy => by
                by_cases cb : (M 11 y).toNat = b
                · rw [cb, g3.2.2 15 (by decide), ← cb]
                  exact R2 y hy
                · obtain ⟨c, _, _, ec2, _, hc3, _⟩ := nd_of hT hy
                  rw [g3.1 _ (by omega) (by omega) cb]
                  exact R2 y hy)
              rw [show fe M x + ((j + 1 : Nat) : Int) = fe M x + j + 1 by omega] at F
              exact F
        have I0 := INN (ec M x + 1) 0 M1 (by omega) (by omega) f1 U1 R1
        rw [show fe M x + ((0 : Nat) : Int) = fe M x by omega] at I0
        exact I0
  -- the first loop
  refine m56 [fx 18, fx 8] ?_
  have L1 : ∀ (N : Nat) (i : Int) (M1 : FM), (M 168 5 - i).toNat < N → 0 ≤ i → i ≤ M 168 5 → nzF sh M M1 → (∀ x : Int, (0 ≤ x ∧ x < i) ∧ live M x → M1 (M 11 x).toNat 14 = 0 ∧ M1 (M 11 x).toNat 15 = -1) → fm_X (d + 3) kd56 2 [some (fx 18), some (fx 8), some (ti i), none, none, none] [] (sh, M1, nx, zl) K := by
    intro N
    induction N with
    | zero =>
      intro i M1 hN2
      omega
    | succ N ih =>
      intro i M1 hN2 i0 i1 f1 R1
      obtain ⟨⟨a1, a2, a3, a4, a5⟩, lv, np⟩ := KEEP M1 f1
      have a82 : M1 8 2 = M 168 5 := by rw [a5]; exact hA
      refine s56_2 (d + 3) K _ _ _ ?_
      refine ⟨by omega, fun w => ?_, fun w => ?_⟩
      · obtain ⟨Q, gQ⟩ : ∃ Q : FM, Q = pq M1 18 2 0 := ⟨_, rfl⟩
        have qo : ∀ c : Nat, c ≠ 18 → Q c = M1 c := fun c hc => by rw [gQ, pq_o _ _ _ hc]
        have fQ : nzF sh M Q := nzF_t f1 ⟨fun c h1 _ _ _ => qo c h1, fun i hi => by rw [gQ, pq_ne _ _ _ _ hi], fun c i hc _ _ => by rw [qo c (by omega)]⟩
        obtain ⟨⟨b1, b2, b3, b4, b5⟩, lv2, np2⟩ := KEEP Q fQ
        have x0 : (0 ≤ (0 : Int) ∧ (0 : Int) < M 168 5) ∧ live M 0 := ⟨by omega, Or.inl rfl⟩
        obtain ⟨a, h9, t9, ea, hS, ha3, -⟩ := nd_of hT x0
        have RQ : ∀ x : Int, (0 ≤ x ∧ x < M 168 5) ∧ live M x → Q (M 11 x).toNat 14 = 0 ∧ Q (M 11 x).toNat 15 = -1 := by
          intro x hx
          obtain ⟨c, _, _, ec2, _, hc3, _⟩ := nd_of hT hx
          rw [qo _ (by omega)]
          exact R1 x ⟨by omega, hx.2⟩
        have UQ : cnU Q [] := by
          refine ⟨by rw [gQ, pq_at]; rfl, (fun i x hx => by cases hx), fun x x0 x1 x2 _ => ?_⟩
          rw [b2] at x1
          rw [lv2] at x2
          rw [b1]
          exact (RQ x ⟨⟨x0, x1⟩, x2⟩).1
        have T1 : (o_al 0 (o_al 1 (o_get 2 1 1 (o_ic 0 (o_aald (o_callv (d + 3) 57 1 4 (o_ic 1 (o_is 2 (fW (d + 3) kd56 K 64)))))))) : FC) [some (fx 18), some (fx 8), some (ti i), none, none, none] [] (sh, Q, nx, zl) := by
          refine ⟨by omega, fun m hm => ?_, fun hm => by rw [b1] at hm; omega⟩
          rw [b1] at hm
          have em : m = a := by omega
          rw [em]
          refine giveNumber_Y (L := []) (treeR_fz hT (nzF_fz fQ)) (x := 0) ⟨by rw [b2]; omega, Or.inl rfl⟩ (by rw [b1]; exact ea) ⟨List.nodup_nil, fun x hx => by cases hx⟩ UQ (fun M3 g3 U3 => ?_)
          have f3 := nzF_t fQ (g57_nz hS ha3 g3)
          have F := LOOP 2002 0 M3 none none none (by omega) (by omega) f3 U3 (fun y hy => by
            by_cases cb : (M 11 y).toNat = a
            · rw [cb, g3.2.2 15 (by decide), ← cb]
              exact (RQ y hy).2
            · obtain ⟨c, _, _, ec2, _, hc3, _⟩ := nd_of hT hy
              rw [g3.1 _ (by omega) (by omega) cb]
              exact (RQ y hy).2)
          exact F
        rw [gQ] at T1
        exact T1
      · have NEXT : ∀ M2 : FM, nzF sh M M2 → (∀ x : Int, (0 ≤ x ∧ x < i + 1) ∧ live M x → M2 (M 11 x).toNat 14 = 0 ∧ M2 (M 11 x).toNat 15 = -1) → b56_41 (d + 3) (fW (d + 3) kd56 K) K [some (fx 18), some (fx 8), some (ti i), none, none, none] [] (sh, M2, nx, zl) := fun M2 f2 R2 => ih (i + 1) M2 (by omega) (by omega) (by omega) f2 R2
        refine ⟨by omega, fun m hm => ?_, fun hm => ?_⟩
        · rw [a1] at hm
          have hl : live M i := by
            by_cases c : live M i
            · exact c
            · have := (hT.2.2.1 i i0 (by omega)).2 c
              omega
          have xi : (0 ≤ i ∧ i < M 168 5) ∧ live M i := ⟨by omega, hl⟩
          obtain ⟨a, h9, t9, ea, hS, ha3, -⟩ := nd_of hT xi
          refine ⟨by omega, fun m2 hm2 => ?_, fun hm2 => by rw [a1] at hm2; omega⟩
          rw [a1] at hm2
          have em : m2 = a := by omega
          rw [em]
          refine ⟨_, ⟨by omega, hS, rfl⟩, ?_⟩
          obtain ⟨Q1, g1⟩ : ∃ Q1 : FM, Q1 = pq M1 a 14 0 := ⟨_, rfl⟩
          have q1o : ∀ c : Nat, c ≠ a → Q1 c = M1 c := fun c hc => by rw [g1, pq_o _ _ _ hc]
          have q1a : Q1 a 14 = 0 := by rw [g1, pq_at]
          have q1n : ∀ j : Int, j ≠ 14 → Q1 a j = M1 a j := fun j hj => by rw [g1, pq_ne _ _ _ _ hj]
          have T1 : (o_al 1 (o_get 2 1 1 (o_il 2 (o_aald (o_lc (-1) (o_put 3 15 15 (b56_41 (d + 3) (fW (d + 3) kd56 K) K)))))) : FC) [some (fx 18), some (fx 8), some (ti i), none, none, none] [] (sh, Q1, nx, zl) := by
            refine ⟨by omega, fun m3 hm3 => ?_, fun hm3 => by rw [q1o 11 (by omega), a1] at hm3; omega⟩
            rw [q1o 11 (by omega), a1] at hm3
            have em3 : m3 = a := by omega
            rw [em3]
            refine ⟨_, ⟨by omega, hS, rfl⟩, ?_⟩
            obtain ⟨Q2, g2⟩ : ∃ Q2 : FM, Q2 = pq Q1 a 15 (-1) := ⟨_, rfl⟩
            have q2o : ∀ c : Nat, c ≠ a → Q2 c = M1 c := fun c hc => by rw [g2, pq_o _ _ _ hc, q1o c hc]
            have q2n : ∀ j : Int, j ≠ 14 → j ≠ 15 → Q2 a j = M1 a j := fun j h1 h2 => by rw [g2, pq_ne _ _ _ _ h2, q1n j h1]
            have F := NEXT Q2 (nzF_t f1 ⟨fun c c1 c2 c3 c4 => q2o c (fun e => by
                rcases ha3 with z | z
                · omega
                · exact c4 (by omega) _ (by rw [e]; exact hS)), fun j hj => by rw [q2o 18 (by omega)], fun c j hc h1 h2 => by
                by_cases e : c = a
                · rw [e, q2n j h1 h2]
                · rw [q2o c e]⟩) (fun x hx => by
                by_cases e : x = i
                · have et : (M 11 i).toNat = a := by omega
                  rw [e, et]
                  refine ⟨?_, by rw [g2, pq_at]⟩
                  rw [g2, pq_ne _ _ _ _ (by decide), q1a]
                · have xl : (0 ≤ x ∧ x < M 168 5) ∧ live M x := ⟨by omega, hx.2⟩
                  have ne : (M 11 x).toNat ≠ a := fun q => e (ndc_inj hT xl xi (by omega))
                  rw [q2o _ ne]
                  exact R1 x ⟨by omega, hx.2⟩)
            rw [g2] at F
            exact F
          rw [g1] at T1
          exact T1
        · rw [a1] at hm
          refine NEXT M1 f1 (fun x hx => ?_)
          by_cases e : x = i
          · rw [e] at hx
            obtain ⟨a, _, _, ea, _⟩ := nd_of hT (x := i) ⟨by omega, hx.2⟩
            omega
          · exact R1 x ⟨by omega, hx.2⟩
  exact L1 ((M 168 5 - 0).toNat + 1) 0 M (by omega) (by omega) (by omega) (nzF_r sh M) (fun x hx => by omega)
end CNUM
