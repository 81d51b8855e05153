/-! FREEZING: numbers and ids; the reference -/
/-- the reference's numbers -/
def rnU (M : FM) (L : List Int) : Prop := M 168 63 = L.length ∧ (∀ (i : Nat) (x : Int), L[i]? = some x → M 213 i = x ∧ M 214 x = (i : Int) + 1) ∧ ∀ x : Int, 0 ≤ x → x < M 168 5 → x ∉ L → M 214 x = 0
def rnF (M M2 : FM) : Prop := (∀ c : Nat, c ≠ 168 → c ≠ 213 → c ≠ 214 → c ≠ 215 → M2 c = M c) ∧ ∀ i : Int, i ≠ 63 → i ≠ 66 → M2 168 i = M 168 i
theorem rnF_t {M M2 M3 : FM} (h : rnF M M2) (g : rnF M2 M3) : rnF M M3 := ⟨fun c h1 h2 h3 h4 => (g.1 c h1 h2 h3 h4).trans (h.1 c h1 h2 h3 h4), fun i h1 h2 => (g.2 i h1 h2).trans (h.2 i h1 h2)⟩
section MNUM
variable {d nx zl : Nat} {K : Option TV → FH → Prop} {sh : Nat → Option Shp} {M : FM}
theorem giveNumbers_Y (hW : twR M) (k : ∀ M2 : FM, rnF M M2 → rnU M2 (nuL M) → rdI M2 (idL M) → K none (sh, M2, nx, zl)) : fm_Y (d + 2) 263 [.ref 168] (sh, M, nx, zl) K := by
  have hN := hW.1.1
  have hE := hW.2.2.2.1.1
  refine m263 [fx 168] ?_
  -- ids
  have IDS : ∀ (N j : Nat) (M1 : FM) (y2 : Option TV), (nuL M).length - j < N → j ≤ (nuL M).length → rnF M M1 → rnU M1 (nuL M) → rdI M1 (idK M (nuL M) j) → fm_X (d + 1) kd263 159 [some (fx 168), some (ti j), y2] [] (sh, M1, nx, zl) K := by
    have LP := nuG_P hW 2000
    have LL := nuP_len hW LP
    have eL : nuL M = nuG M 2000 := rfl
    rw [← eL] at LP LL
    intro N
    induction N with
    | zero =>
      intro j M1 y2 hN2
      omega
    | succ N ih =>
      intro j M1 y2 hN2 hj f1 U1 I1
      have u1 := U1.1
      have k173 : M1 173 = M 173 := f1.1 173 (by omega) (by omega) (by omega) (by omega)
      have k174 : M1 174 = M 174 := f1.1 174 (by omega) (by omega) (by omega) (by omega)
      refine s263_159 (d + 1) K _ _ _ ?_
      refine ⟨by omega, fun w => ?_, fun w => ?_⟩
      · have e : j = (nuL M).length := by omega
        rw [e] at I1
        exact k M1 f1 U1 I1
      · have hjl : j < (nuL M).length := by omega
        obtain ⟨x, hx⟩ : ∃ x, (nuL M)[j]? = some x := ⟨_, List.getElem?_eq_getElem hjl⟩
        have xl := (LP.2 x (List.mem_of_getElem? hx)).1
        have nw := hW.1.2 x xl.1 xl.2
        have v := (U1.2.1 j x hx).1
        have il := idK_len M (nuL M) j
        have ir := idK_rng hW LP j
        have sl := nuX_len (idK M (nuL M) j) (M 173 x)
        have es := idK_s (M := M) hx
        refine ⟨by omega, ?_⟩
        refine ⟨by omega, ?_⟩
        rw [v, k173]
        refine idOf_Y I1 ir nw.2.2.2.1 (Or.inl (by omega)) (fun M2 f2 f3 I2 => ?_)
        have g2 : rnF M M2 := rnF_t f1 ⟨fun c h1 h2 h3 h4 => f2 c h1 h4, fun i h1 h2 => f3 i h2⟩
        have v2 : M2 213 (j : Int) = x := by
          rw [f2 213 (by omega) (by omega)]
          exact v
        refine ⟨by omega, ?_⟩
        refine ⟨by omega, ?_⟩
        rw [v2, f2 174 (by omega) (by omega), k174]
        refine idOf_Y I2 (fun y hy => ?_) nw.2.2.2.2.1 (Or.inl (by omega)) (fun M3 f4 f5 I3 => ?_)
        · rcases nuX_mem.1 hy with z | z
          · exact ir y z
          · rw [z]
            exact nw.2.2.2.1
        · have g3 : rnF M M3 := rnF_t g2 ⟨fun c h1 h2 h3 h4 => f4 c h1 h4, fun i h1 h2 => f5 i h2⟩
          refine ih (j + 1) M3 y2 (by omega) (by omega) g3 ⟨?_, fun i y hy => ?_, fun y y0 y1 y2 => ?_⟩ (by rw [es]; exact I3)
          · rw [f5 63 (by decide), f3 63 (by decide)]
            exact u1
          · rw [f4 213 (by omega) (by omega), f4 214 (by omega) (by omega), f2 213 (by omega) (by omega), f2 214 (by omega) (by omega)]
            exact U1.2.1 i y hy
          · rw [f5 5 (by decide), f3 5 (by decide)] at y1
            rw [f4 214 (by omega) (by omega), f2 214 (by omega) (by omega)]
            exact U1.2.2 y y0 y1 y2
  -- numbers
  have LOOP : ∀ (N k1 : Nat) (M1 : FM) (y2 : Option TV), 2001 - k1 < N → k1 ≤ (nuG M k1).length → rnF M M1 → rnU M1 (nuG M k1) → fm_X (d + 1) kd263 44 [some (fx 168), some (ti k1), y2] [] (sh, M1, nx, zl) K := by
    intro N
    induction N with
    | zero =>
      intro k1 M1 y2 hN2 hk
      have := nuP_len hW (nuG_P hW k1)
      omega
    | succ N ih =>
      intro k1 M1 y2 hN2 hk f1 U1
      have P1 := nuG_P hW k1
      have pl := nuP_len hW P1
      have u1 := U1.1
      refine s263_44 (d + 1) K _ _ _ ?_
      refine ⟨by omega, fun w => ?_, fun w => ?_⟩
      · have e : nuL M = nuG M k1 := nuL_at hW (by omega)
        obtain ⟨Q, gQ⟩ : ∃ Q : FM, Q = pq M1 168 66 0 := ⟨_, rfl⟩
        have qo : ∀ c : Nat, c ≠ 168 → Q c = M1 c := fun c hc => by rw [gQ, pq_o _ _ _ hc]
        have qn : ∀ i : Int, i ≠ 66 → Q 168 i = M1 168 i := fun i hi => by rw [gQ, pq_ne _ _ _ _ hi]
        have F := IDS ((nuL M).length + 1) 0 Q y2 (by omega) (by omega) (rnF_t f1 ⟨fun c h1 _ _ _ => qo c h1, fun i _ h2 => qn i h2⟩) (by
          rw [e]
          refine ⟨?_, fun i y hy => ?_, fun y y0 y1 y2 => ?_⟩
          · rw [qn 63 (by decide)]
            exact u1
          · rw [qo 213 (by omega), qo 214 (by omega)]
            exact U1.2.1 i y hy
          · rw [qn 5 (by decide)] at y1
            rw [qo 214 (by omega)]
            exact U1.2.2 y y0 y1 y2) ⟨by rw [gQ, pq_at]; rfl, fun i x hx => by cases hx⟩
        rw [gQ] at F
        exact F
      · have hk2 : k1 < (nuG M k1).length := by omega
        obtain ⟨x, hx⟩ : ∃ x, (nuG M k1)[k1]? = some x := ⟨_, List.getElem?_eq_getElem hk2⟩
        have xm := List.mem_of_getElem? hx
        have xl := P1.2 x xm
        have v := (U1.2.1 k1 x hx).1
        have k5 : M1 168 5 = M 168 5 := f1.2 5 (by decide) (by decide)
        have k20 : M1 168 20 = M 168 20 := f1.2 20 (by decide) (by decide)
        have k183 : M1 183 = M 183 := f1.1 183 (by omega) (by omega) (by omega) (by omega)
        have KT : ∀ M2 : FM, rnF M M2 → twR M2 := by
          intro M2 g
          obtain ⟨w1, w2, w3, w4, w5, w6, w7⟩ := hW
          have j5 : M2 168 5 = M 168 5 := g.2 5 (by decide) (by decide)
          have j17 : M2 168 17 = M 168 17 := g.2 17 (by decide) (by decide)
          have j19 : M2 168 19 = M 168 19 := g.2 19 (by decide) (by decide)
          have j20 : M2 168 20 = M 168 20 := g.2 20 (by decide) (by decide)
          have j26 : M2 168 26 = M 168 26 := g.2 26 (by decide) (by decide)
          have G : ∀ c : Nat, 171 ≤ c → c ≤ 187 → M2 c = M c := fun c c1 c2 => g.1 c (by omega) (by omega) (by omega) (by omega)
          have LV : ∀ i, live M2 i = live M i := fun i => by unfold live; rw [G 177 (by omega) (by omega)]
          have NM : ∀ i, nmL M2 i = nmL M i := fun i => by unfold nmL; rw [G 185 (by omega) (by omega), G 186 (by omega) (by omega), G 187 (by omega) (by omega)]
          refine ⟨?_, ?_, ?_, ?_, ?_, ?_, ?_⟩
          · unfold twN
            rw [j5, G 171 (by omega) (by omega), G 172 (by omega) (by omega), G 173 (by omega) (by omega), G 174 (by omega) (by omega), G 175 (by omega) (by omega), G 176 (by omega) (by omega), G 178 (by omega) (by omega)]
            exact w1
          · unfold twB
            rw [j5, j17, j19, G 171 (by omega) (by omega), G 179 (by omega) (by omega), G 180 (by omega) (by omega)]
            exact w2
          · unfold twD
            rw [j5, G 171 (by omega) (by omega), G 179 (by omega) (by omega), G 180 (by omega) (by omega)]
            exact w3
          · unfold twE
            simp only [j5, j20, j26, G 171 (by omega) (by omega), G 178 (by omega) (by omega), G 183 (by omega) (by omega), G 184 (by omega) (by omega), G 185 (by omega) (by omega), G 186 (by omega) (by omega), LV]
            exact w4
          · unfold twO ltK
            simp only [j20, G 183 (by omega) (by omega), NM]
            exact w5
          · unfold twS
            rw [j20, G 185 (by omega) (by omega), G 186 (by omega) (by omega)]
            exact w6
          · unfold twC
            rw [j5, j20, G 171 (by omega) (by omega), G 177 (by omega) (by omega), G 184 (by omega) (by omega)]
            exact w7
        have fx1 : fe M1 x = fe M x := by
          unfold fe
          rw [k20, k183]
        refine ⟨by omega, ?_⟩
        rw [v]
        refine firstEntry_Y (KT M1 f1) (by omega) ?_
        rw [fx1]
        have er := fe_r hW x
        have eg : nuG M (k1 + 1) = nuA M (nuG M k1) (fe M x) (ec M x) := by
          show (match (nuG M k1)[k1]? with
            | none => nuG M k1
            | some x => nuA M (nuG M k1) (fe M x) (ec M x)) = _
          rw [hx]
        have INN : ∀ (N2 j : Nat) (M2 : FM), ec M x - j < N2 → j ≤ ec M x → rnF M M2 → rnU M2 (nuA M (nuG M k1) (fe M x) j) → fm_X (d + 1) kd263 63 [some (fx 168), some (ti k1), some (ti (fe M x + j))] [] (sh, M2, nx, zl) K := by
          intro N2
          induction N2 with
          | zero =>
            intro j M2 hN3
            omega
          | succ N2 ih2 =>
            intro j M2 hN3 hj f2 U2
            have b20 : M2 168 20 = M 168 20 := f2.2 20 (by decide) (by decide)
            have b5 : M2 168 5 = M 168 5 := f2.2 5 (by decide) (by decide)
            have b183 : M2 183 = M 183 := f2.1 183 (by omega) (by omega) (by omega) (by omega)
            have b184 : M2 184 = M 184 := f2.1 184 (by omega) (by omega) (by omega) (by omega)
            have PA := nuA_P hW P1 er.1 j (by omega)
            obtain ⟨Y, hY⟩ := nuA_pre M (nuG M k1) (fe M x) j
            have vk : M2 213 k1 = x := by
              refine (U2.2.1 k1 x ?_).1
              rw [hY, List.getElem?_append_left hk2]
              exact hx
            have DONE : j = ec M x → b263_146 (d + 1) (fW (d + 1) kd263 K) K [some (fx 168), some (ti k1), some (ti (fe M x + j))] [] (sh, M2, nx, zl) := by
              intro ej
              rw [ej] at U2
              rw [← eg] at U2
              have gl : k1 + 1 ≤ (nuG M (k1 + 1)).length := by
                obtain ⟨Y, hY⟩ := nuA_pre M (nuG M k1) (fe M x) (ec M x)
                rw [eg, hY, List.length_append]
                omega
              exact ih (k1 + 1) M2 _ (by omega) gl f2 U2
            have NX2 : ∀ M3 : FM, rnF M M3 → j + 1 ≤ ec M x → rnU M3 (nuA M (nuG M k1) (fe M x) (j + 1)) → b263_140 (d + 1) (fW (d + 1) kd263 K) K [some (fx 168), some (ti k1), some (ti (fe M x + j))] [] (sh, M3, nx, zl) := by
              intro M3 f3 h3 U3
              have F := ih2 (j + 1) M3 (by omega) h3 f3 U3
              rw [show fe M x + ((j + 1 : Nat) : Int) = fe M x + j + 1 by omega] at F
              exact F
            refine s263_63 (d + 1) K _ _ _ ?_
            refine ⟨by omega, fun w => DONE (by omega), fun w => ?_⟩
            refine ⟨by omega, ?_⟩
            refine ⟨by omega, ?_⟩
            rw [vk, b183]
            have m1 := (hW.2.2.2.1.2 (fe M x + j) (by omega) (by omega)).1
            refine ⟨by omega, fun w2 => ?_, fun w2 => ?_⟩
            · refine DONE ?_
              by_cases c : j < ec M x
              · exact absurd (fe_in hW (F := x) (k := fe M x + j) (by omega) (by omega)) w2
              · omega
            · have hj2 := (fe_out hW (F := x) (k := fe M x + j) (by omega) (by omega) (by omega)).2
              have cl := ent_live hW (k := fe M x + j) (by omega) (by omega)
              obtain ⟨y, hy⟩ : ∃ y, y = M 184 (fe M x + j) := ⟨_, rfl⟩
              have LA := nuP_len hW PA
              refine ⟨by omega, ?_⟩
              rw [b184, ← hy]
              refine ⟨by omega, ?_⟩
              by_cases c : y ∈ nuA M (nuG M k1) (fe M x) j
              · obtain ⟨i, hi⟩ := List.getElem?_of_mem c
                have vi := (U2.2.1 i y hi).2
                have il := (List.getElem?_eq_some_iff.1 hi).1
                refine ⟨by omega, fun w3 => ?_, fun w3 => by omega⟩
                refine NX2 M2 f2 (by omega) ?_
                have e : nuA M (nuG M k1) (fe M x) (j + 1) = nuA M (nuG M k1) (fe M x) j := if_pos (by rw [← hy]; exact c)
                rw [e]
                exact U2
              · have v0 := U2.2.2 y (by omega) (by omega) c
                have PB := nuP_add PA (x := y) ⟨by omega, by rw [hy]; exact cl.2⟩ c
                have LB := nuP_len hW PB
                have ll : (nuA M (nuG M k1) (fe M x) j ++ [y]).length = (nuA M (nuG M k1) (fe M x) j).length + 1 := by
                  rw [List.length_append]
                  rfl
                rw [ll] at LB
                have u2 := U2.1
                obtain ⟨A, hA⟩ : ∃ A, A = nuA M (nuG M k1) (fe M x) j := ⟨_, rfl⟩
                rw [← hA] at u2 c LA LB PA ll U2
                refine ⟨by omega, fun w3 => absurd v0 w3, fun _ => ?_⟩
                refine ⟨by omega, ?_⟩
                rw [b184, ← hy]
                refine ⟨by omega, ?_⟩
                obtain ⟨Q1, g1⟩ : ∃ Q1 : FM, Q1 = pq M2 213 (M2 168 63) y := ⟨_, rfl⟩
                have q1o : ∀ c : Nat, c ≠ 213 → Q1 c = M2 c := fun c hc => by rw [g1, pq_o _ _ _ hc]
                obtain ⟨Q2, g2⟩ : ∃ Q2 : FM, Q2 = pq Q1 168 63 (Q1 168 63 + 1) := ⟨_, rfl⟩
                have q2o : ∀ c : Nat, c ≠ 168 → c ≠ 213 → Q2 c = M2 c := fun c h1 h2 => by rw [g2, pq_o _ _ _ h1, q1o c h2]
                have q2a : Q2 168 63 = (A.length : Int) + 1 := by rw [g2, pq_at, q1o 168 (by omega), u2]
                have q2n : ∀ i : Int, i ≠ 63 → Q2 168 i = M2 168 i := fun i hi => by rw [g2, pq_ne _ _ _ _ hi, q1o 168 (by omega)]
                have q2b : Q2 213 = Q1 213 := by rw [g2, pq_o _ _ _ (by omega)]
                have T2 : (o_al 0 (o_get 12 65 65 (o_al 0 (o_get 12 22 22 (o_il 2 (o_iald (o_al 0 (o_get 12 63 63 (o_iast (b263_140 (d + 1) (fW (d + 1) kd263 K) K))))))))) : FC) [some (fx 168), some (ti k1), some (ti (fe M x + j))] [] (sh, Q2, nx, zl) := by
                  refine ⟨by omega, ?_⟩
                  rw [q2o 184 (by omega) (by omega), b184, ← hy]
                  refine ⟨by omega, ?_⟩
                  rw [q2a]
                  obtain ⟨Q3, g3⟩ : ∃ Q3 : FM, Q3 = pq Q2 214 y ((A.length : Int) + 1) := ⟨_, rfl⟩
                  have q3o : ∀ c : Nat, c ≠ 214 → Q3 c = Q2 c := fun c hc => by rw [g3, pq_o _ _ _ hc]
                  have F := NX2 Q3 (rnF_t f2 ⟨fun c h1 h2 h3 h4 => by rw [q3o c h3, q2o c h1 h2], fun i h1 h2 => by rw [q3o 168 (by omega), q2n i h1]⟩) (by omega) (by
                    have e : nuA M (nuG M k1) (fe M x) (j + 1) = A ++ [y] := by
                      show (if M 184 (fe M x + j) ∈ nuA M (nuG M k1) (fe M x) j then nuA M (nuG M k1) (fe M x) j else nuA M (nuG M k1) (fe M x) j ++ [M 184 (fe M x + j)]) = _
                      rw [← hy, ← hA, if_neg c]
                    rw [e]
                    refine ⟨?_, fun i z hz => ?_, fun z z0 z1 z2 => ?_⟩
                    · rw [q3o 168 (by omega), q2a, ll]
                      rfl
                    · rw [apG] at hz
                      rw [q3o 213 (by omega), q2b]
                      by_cases ci : i < A.length
                      · rw [if_pos ci] at hz
                        have zm : z ∈ A := List.mem_of_getElem? hz
                        have o := U2.2.1 i z hz
                        rw [g1, pq_ne _ _ _ _ (by omega), g3, pq_ne _ _ _ _ (fun q => c (by rw [← q]; exact zm)), q2o 214 (by omega) (by omega)]
                        exact o
                      · rw [if_neg ci] at hz
                        by_cases ci2 : i = A.length
                        · rw [if_pos ci2] at hz
                          injection hz with hz
                          rw [← hz, ci2, g1, ← u2, pq_at, g3, pq_at, u2]
                          exact ⟨rfl, rfl⟩
                        · rw [if_neg ci2] at hz
                          cases hz
                    · rw [q3o 168 (by omega), q2n 5 (by decide)] at z1
                      rw [g3, pq_ne _ _ _ _ (fun q => z2 (List.mem_append.2 (Or.inr (by rw [q]; exact List.mem_singleton_self _)))), q2o 214 (by omega) (by omega)]
                      exact U2.2.2 z z0 z1 (fun q => z2 (List.mem_append.2 (Or.inl q))))
                  rw [g3] at F
                  exact F
                rw [g2, g1] at T2
                exact T2
        have I0 := INN (ec M x + 1) 0 M1 (by omega) (by omega) f1 U1
        rw [show fe M x + ((0 : Nat) : Int) = fe M x by omega] at I0
        exact I0
  -- nothing is numbered
  have L1 : ∀ (N : Nat) (i : Int) (M1 : FM) (y2 : Option TV), (M 168 5 - i).toNat < N → 0 ≤ i → i ≤ M 168 5 → rnF M M1 → (∀ x : Int, 0 ≤ x → x < i → M1 214 x = 0) → fm_X (d + 1) kd263 2 [some (fx 168), some (ti i), y2] [] (sh, M1, nx, zl) K := by
    intro N
    induction N with
    | zero =>
      intro i M1 y2 hN2
      omega
    | succ N ih =>
      intro i M1 y2 hN2 i0 i1 f1 R1
      have k5 : M1 168 5 = M 168 5 := f1.2 5 (by decide) (by decide)
      refine s263_2 (d + 1) K _ _ _ ?_
      refine ⟨by omega, fun w => ?_, fun w => ?_⟩
      · obtain ⟨Q1, g1⟩ : ∃ Q1 : FM, Q1 = pq M1 168 63 1 := ⟨_, rfl⟩
        obtain ⟨Q2, g2⟩ : ∃ Q2 : FM, Q2 = pq Q1 213 0 0 := ⟨_, rfl⟩
        obtain ⟨Q3, g3⟩ : ∃ Q3 : FM, Q3 = pq Q2 214 0 1 := ⟨_, rfl⟩
        have o : ∀ c : Nat, c ≠ 168 → c ≠ 213 → c ≠ 214 → Q3 c = M1 c := fun c h1 h2 h3 => by rw [g3, pq_o _ _ _ h3, g2, pq_o _ _ _ h2, g1, pq_o _ _ _ h1]
        have n : ∀ j : Int, j ≠ 63 → Q3 168 j = M1 168 j := fun j hj => by rw [g3, pq_o _ _ _ (by omega), g2, pq_o _ _ _ (by omega), g1, pq_ne _ _ _ _ hj]
        have T3 : (fW (d + 1) kd263 K 44) [some (fx 168), some (ti 0), y2] [] (sh, Q3, nx, zl) := by
          refine LOOP 2002 0 Q3 y2 (by omega) (by omega) (rnF_t f1 ⟨fun c h1 h2 h3 h4 => o c h1 h2 h3, fun j h1 h2 => n j h1⟩) ⟨?_, fun j x hx => ?_, fun x x0 x1 x2 => ?_⟩
          · rw [g3, pq_o _ _ _ (by omega), g2, pq_o _ _ _ (by omega), g1, pq_at]
            rfl
          · cases j with
            | zero =>
              have e : some (0 : Int) = some x := hx
              injection e with e
              rw [← e]
              refine ⟨?_, ?_⟩
              · rw [g3, pq_o _ _ _ (by omega), g2]
                exact pq_at _ _ _ _
              · rw [g3, pq_at]
                rfl
            | succ j => cases hx
          · rw [n 5 (by decide), k5] at x1
            have xn : x ≠ 0 := fun q => x2 (by rw [q]; exact List.mem_singleton_self _)
            rw [g3, pq_ne _ _ _ _ xn, g2, pq_o _ _ _ (by omega), g1, pq_o _ _ _ (by omega)]
            exact R1 x x0 (by omega)
        refine ⟨by omega, ?_⟩
        refine ⟨by omega, ?_⟩
        rw [g3, g2, g1] at T3
        exact T3
      · refine ⟨by omega, ?_⟩
        obtain ⟨Q, gQ⟩ : ∃ Q : FM, Q = pq M1 214 i 0 := ⟨_, rfl⟩
        have F := ih (i + 1) Q y2 (by omega) (by omega) (by omega) (rnF_t f1 ⟨fun c _ _ h3 _ => by rw [gQ, pq_o _ _ _ h3], fun j _ _ => by rw [gQ, pq_o _ _ _ (by omega)]⟩) (fun x x0 x1 => by
          by_cases e : x = i
          · rw [e, gQ, pq_at]
          · rw [gQ, pq_ne _ _ _ _ e]
            exact R1 x x0 (by omega))
        rw [gQ] at F
        exact F
  exact L1 ((M 168 5 - 0).toNat + 1) 0 M none (by omega) (by omega) (by omega) ⟨fun _ _ _ _ _ => rfl, fun _ _ _ => rfl⟩ (fun x x0 x1 => by omega)
end MNUM
