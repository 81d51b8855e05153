/-! COUNTING STRAYS: the reference, all -/
theorem nuG_kid (M : FM) : ∀ (k : Nat) (x : Int), x ∈ nuG M k → x = 0 ∨ ∃ F ∈ nuG M k, ∃ i : Nat, i < ec M F ∧ x = M 184 (fe M F + i)
  | 0, x, h => Or.inl (List.mem_singleton.1 h)
  | k + 1, x, h => by
    have e : nuG M (k + 1) = (match (nuG M k)[k]? with
      | none => nuG M k
      | some y => nuA M (nuG M k) (fe M y) (ec M y)) := rfl
    rw [e] at h ⊢
    cases hy : (nuG M k)[k]? with
    | none =>
      rw [hy] at h
      exact nuG_kid M k x h
    | some y =>
      rw [hy] at h
      have h2 : x ∈ nuA M (nuG M k) (fe M y) (ec M y) := h
      obtain ⟨Y, hY⟩ := nuA_pre M (nuG M k) (fe M y) (ec M y)
      have up : ∀ z, z ∈ nuG M k → z ∈ nuA M (nuG M k) (fe M y) (ec M y) := fun z hz => by
        rw [hY]
        exact List.mem_append_left _ hz
      rcases nuA_inv M (nuG M k) (fe M y) x (ec M y) h2 with q | ⟨i, i1, i2⟩
      · rcases nuG_kid M k x q with w | ⟨F, f1, i, i1, i2⟩
        · exact Or.inl w
        · exact Or.inr ⟨F, up F f1, i, i1, i2⟩
      · exact Or.inr ⟨y, up y (List.mem_of_getElem? hy), i, i1, i2⟩
theorem nuL_pa {M : FM} (hW : twR M) {x : Int} (hx : x ∈ nuL M) (h0 : x ≠ 0) (h1 : M 171 x = 1) : M 178 x ∈ nuL M := by
  rcases nuG_kid M 2000 x hx with w | ⟨F, f1, i, i1, i2⟩
  · exact absurd w h0
  · have er := fe_r hW F
    have e1 := fe_in hW (F := F) (k := fe M F + i) (by omega) (by omega)
    have tE := (hW.2.2.2.1.2 (fe M F + i) (by omega) (by omega)).2.2.2
    rw [← i2, e1] at tE
    rw [← tE h1]
    exact f1
/-- parents are told -/
theorem ab_of {M : FM} {f : Int → Int} {s : Int} {L : List Int} (hO : ftO f s) (h00 : M 171 0 = 1) (h0 : (0 : Int) ∈ L) (hb : le f 4 4 = L.length ∧ ∀ (i : Nat) (x : Int), L[i]? = some x → kdQ f ((i : Int) + 1) = M 171 x ∧ (M 171 x = 1 → paF (lf (rwR (qI f))) (plf f) ((i : Int) + 1) = paN M L x)) {i : Nat} {x : Int} (hx : L[i]? = some x) (h1 : M 171 x = 1) : (if (i : Int) + 1 = rof f then rof f else paF (lf (rwR (qI f))) (plf f) ((i : Int) + 1)) = if x = 0 then (i : Int) + 1 else nuO L (M 178 x) := by
  have il : ∀ (i : Nat) (x : Int), L[i]? = some x → i < L.length := fun i x h => by
    by_cases c : i < L.length
    · exact c
    · rw [List.getElem?_eq_none (by omega)] at h
      exact absurd h (by simp)
  have Z : ∀ i : Nat, L[i]? = some 0 → (i : Int) + 1 = rof f := fun i hi => by
    have l := il i 0 hi
    obtain ⟨q1, q2⟩ := hb.2 i 0 hi
    have q3 := q2 h00
    unfold paN at q3
    rw [if_pos rfl] at q3
    by_cases c : (i : Int) + 1 = rof f
    · exact c
    · have := pa_r hO (j := (i : Int) + 1) (by omega) (by omega) (by rw [q1]; exact h00) c
      omega
  by_cases x0 : x = 0
  · rw [x0] at hx
    rw [if_pos x0, if_pos (Z i hx)]
    exact (Z i hx).symm
  · have ne : ¬ (i : Int) + 1 = rof f := fun e => by
      obtain ⟨i0, hi0, e0⟩ := List.getElem_of_mem h0
      have h2 : L[i0]? = some 0 := by rw [← e0]; exact List.getElem?_eq_getElem hi0
      have := Z i0 h2
      have ei : i = i0 := by omega
      rw [ei, h2] at hx
      exact x0 (Option.some.inj hx).symm
    rw [if_neg x0, if_neg ne, (hb.2 i x hx).2 h1]
    unfold paN
    rw [if_neg x0]
/-- what the reference has mounted, of a row that is alike -/
theorem mtM_cg {M : FM} {f g : Int → Int} {s : Int} (h : agr f g s) (hO : ftO f s) (hm : mtM M f s) : mtM M g s := by
  obtain ⟨hsu, hpl, hrw, h4, h5, h6, h7, h8⟩ := hO
  obtain ⟨⟨e1, e2, e3, e4, e5⟩, ⟨b1, b2, b3, b4⟩, ⟨c2, d1, p2⟩, ⟨ep, eh, er⟩, ek, eE, et, eho, efo, eea⟩ := der_cg h hsu hpl
  obtain ⟨-, sn, sF, -, sA⟩ := su_B hsu
  obtain ⟨⟨a1, a2, ⟨a3, a4⟩, a5⟩, m1, m2, m3⟩ := hm
  unfold mtM s8M
  rw [← e1, ← e2, ← e3, ← e5, ← b1, ← b2, ← b3, ← b4, ← c2, ← ep, ← eh, ← er]
  refine ⟨⟨a1, a2, ⟨fun i i0 i1 => (a3 i i0 i1).trans (h i i0 i1), a4⟩, a5⟩, m1, m2, fun i i0 i1 => ?_⟩
  rw [← fsF_cg h sA.2 h4 i0 i1]
  exact m3 i i0 i1
/-- what counting leaves, of the reference -/
def maS (M M2 : FM) : Prop := (∀ c : Nat, c ≠ 168 → (c < 195 ∨ 210 < c) → (c < 238 ∨ 264 < c) → M2 c = M c) ∧ ∀ i : Int, (i < 50 ∨ 57 < i ∧ i < 92) → i ≠ 90 → M2 168 i = M 168 i
section MCOUNT
variable {d nx zl : Nat} {K : Option TV → FH → Prop} {sh : Nat → Option Shp} {M : FM} {f : Int → Int} {s : Int}
theorem countAstray_Y {L : List Int} {g : Int → Int} (gf : M 211 = g) (hag : agr g f s) (gs : M 168 59 = s) (hs : 0 ≤ s ∧ s ≤ 131072) (hW : twR M) (hP : nuP M L) (h0 : (0 : Int) ∈ L) (hcl : ∀ x ∈ L, ∀ t : Nat, t < ec M x → M 184 (fe M x + t) ∈ L) (hpa : ∀ x ∈ L, x ≠ 0 → M 171 x = 1 → M 178 x ∈ L) (hrn : rnU M L) (hb : ftO f s → le f 4 4 = L.length ∧ ∀ (i : Nat) (x : Int), L[i]? = some x → kdQ f ((i : Int) + 1) = M 171 x ∧ (M 171 x = 1 → paF (lf (rwR (qI f))) (plf f) ((i : Int) + 1) = paN M L x))
    (k : ∀ M2 : FM, maS M M2 → (ftO f s → mtM M2 f s) → M2 168 90 = cif (ftO f s) (stC (fun i => ∀ x : Int, L[i]? = some x → toQ f M L x ((i : Int) + 1)) L.length) L.length → K none (sh, M2, nx, zl)) : fm_Y (d + 11) 316 [.ref 168] (sh, M, nx, zl) K := by
  have LL := nuP_len hW hP
  have nN := hW.1.1
  have rN := ft_r f s
  obtain ⟨P, hPq⟩ : ∃ P : Nat → Prop, P = fun i : Nat => ∀ x : Int, L[i]? = some x → toQ f M L x ((i : Int) + 1) := ⟨_, rfl⟩
  rw [← hPq] at k
  have M214 : ∀ y ∈ L, M 214 y = nuO L y ∧ 0 ≤ nuO L y ∧ nuO L y ≤ 2000 := fun y hy => by
    obtain ⟨q, hq, ey⟩ := List.getElem_of_mem hy
    have h2 : L[q]? = some y := by rw [← ey]; exact List.getElem?_eq_getElem hq
    have nr := nuO_r hy
    exact ⟨((hrn.2.1 q y h2).2).trans (nu_at hP.1 h2).symm, by omega, by omega⟩
  have LOOP : ∀ fl : Int, (fl = 1 ∧ ftO f s ∨ fl = 0 ∧ ¬ ftO f s) → ∀ (N i : Nat) (M2 : FM), L.length - i < N → i ≤ L.length → maS M M2 → (ftO f s → mtM M2 f s) → M2 168 90 = cif (ftO f s) (stC P i) i → fm_X (d + 10) kd316 20 [some (fx 168), some (ti fl), some (ti i)] [] (sh, M2, nx, zl) K := by
    intro fl hfl N
    induction N with
    | zero =>
      intro i M2 hN
      omega
    | succ N ih =>
      intro i M2 hN hi f2 ok2 v90
      have sr := stC_r P i
      have v63 : M2 168 63 = L.length := by rw [f2.2 63 (by omega) (by omega)]; exact hrn.1
      have NXT : ∀ (M3 : FM) (v : Int), maS M M3 → (ftO f s → mtM M3 f s) → i < L.length → v = cif (ftO f s) (stC P (i + 1)) ((i + 1 : Nat) : Int) → b316_70 (d + 10) (fW (d + 10) kd316 K) K [some (fx 168), some (ti fl), some (ti i)] [ti v, fx 168] (sh, M3, nx, zl) := by
        intro M3 v f3 ok3 il hv
        obtain ⟨R, gR⟩ : ∃ R : FM, R = pq M3 168 90 v := ⟨_, rfl⟩
        have ro : ∀ c : Nat, c ≠ 168 → R c = M3 c := fun c hc => by rw [gR, pq_o _ _ _ hc]
        have rn : ∀ j : Int, j ≠ 90 → R 168 j = M3 168 j := fun j hj => by rw [gR, pq_ne _ _ _ _ hj]
        have r90 : R 168 90 = v := by rw [gR, pq_at]
        have F := ih (i + 1) R (by omega) (by omega) ⟨fun c c1 c2 c3 => (ro c c1).trans (f3.1 c c1 c2 c3), fun j j1 j2 => (rn j j2).trans (f3.2 j j1 j2)⟩ (fun h => mtM_to (ok3 h) (fun c hc => ro c (by omega)) (fun j hj => rn j (by omega))) (by rw [r90]; exact hv)
        rw [show ((i + 1 : Nat) : Int) = (i : Int) + 1 by omega, gR] at F
        exact F
      refine s316_20 (d + 10) K _ _ _ ?_
      refine ⟨by omega, fun w => ?_, fun w => ?_⟩
      · have ei : i = L.length := by omega
        rw [ei] at v90
        exact k M2 f2 ok2 v90
      · have il : i < L.length := by omega
        obtain ⟨x, hx⟩ : ∃ x, L[i]? = some x := ⟨_, List.getElem?_eq_getElem il⟩
        have xL := List.mem_of_getElem? hx
        have xr := hP.2 x xL
        refine ⟨by omega, fun w2 => ?_, fun w2 => ?_⟩
        · have nO : ¬ ftO f s := by
            rcases hfl with ⟨q, -⟩ | ⟨-, q⟩
            · omega
            · exact q
          rw [cif_neg nO] at v90
          refine NXT M2 _ f2 ok2 il ?_
          rw [cif_neg nO, v90]
          omega
        · have hO : ftO f s := by
            rcases hfl with ⟨-, q⟩ | ⟨q, -⟩
            · exact q
            · omega
          obtain ⟨hn, hkp⟩ := hb hO
          have m2 := ok2 hO
          have v92 : M2 168 92 = le f 4 4 := m2.1.1.1.2.1.1
          rw [cif_pos hO] at v90
          refine ⟨by omega, fun w3 => by omega, fun _ => ?_⟩
          have v213 : M2 213 i = x := by rw [f2.1 213 (by omega) (by omega) (by omega)]; exact (hrn.2.1 i x hx).1
          refine ⟨by omega, ?_⟩
          rw [v213]
          have ts2 : tsR M M2 := ⟨fun c c1 c2 => f2.1 c (by omega) (by omega) (by omega), fun j hj => f2.2 j (by omega) (by omega)⟩
          have W2 : twR M2 := twR_k hW ts2.1 (fun j _ hj => ts2.2 j hj)
          obtain ⟨kd, -⟩ := hkp i x hx
          have e171 : M2 171 = M 171 := ts2.1 171 (by omega) (by omega)
          have e184 : M2 184 = M 184 := ts2.1 184 (by omega) (by omega)
          have e178 : M2 178 = M 178 := ts2.1 178 (by omega) (by omega)
          have e214 : M2 214 = M 214 := f2.1 214 (by omega) (by omega) (by omega)
          obtain ⟨fe1, ec1⟩ := fe_cg ts2 x
          have e5 : M2 168 5 = M 168 5 := ts2.2 5 (by omega)
          refine isTold_Y (d := d + 2) (L := L) hs.2 hO m2 W2 (by rw [e5]; exact xr.1) (by omega) (by rw [e171]; exact kd) (fun t ht => ?_) (fun h1 => ?_) (fun h1 hp => ?_) (fun M3 z f3 hz => ?_)
          · rw [e214, e184, fe1]
            exact M214 _ (hcl x xL t (by omega))
          · rw [e171] at h1
            rw [e214, e178, ab_of hO nN.2.2 h0 ⟨hn, hkp⟩ hx h1]
            by_cases x0 : x = 0
            · rw [if_pos x0, if_pos x0]
            · rw [if_neg x0, if_neg x0, (M214 _ (hpa x xL x0 h1)).1]
          · rw [e171] at h1
            rw [e214, e178]
            have := M214 _ (hpa x xL (by omega) h1)
            omega
          · have tq := toQ_cg ts2 f L x ((i : Int) + 1)
            have PE : P i ↔ toQ f M L x ((i : Int) + 1) := by
              rw [hPq]
              exact ⟨fun h => h x hx, fun h y hy => by rw [hx] at hy; rw [← Option.some.inj hy]; exact h⟩
            have f23 : maS M M3 := ⟨fun c c1 c2 c3 => (f3.1 c c1 c2 (by omega)).trans (f2.1 c c1 c2 c3), fun j j1 j2 => (f3.2 j (by omega)).trans (f2.2 j j1 j2)⟩
            have m3 := raX_w f3 m2
            have u90 : M3 168 90 = stC P i := by rw [f3.2 90 (by omega)]; exact v90
            have es : stC P (i + 1) = stC P i + cif (P i) 0 1 := rfl
            rcases hz with ⟨z1, z2⟩ | ⟨z1, z2⟩
            · rw [z1]
              refine ⟨by omega, fun w4 => by omega, fun _ => NXT M3 _ f23 (fun _ => m3) il ?_⟩
              rw [cif_pos hO, es, cif_pos (PE.2 (tq.1 z2)), u90]
              omega
            · rw [z1]
              refine ⟨by omega, fun _ => NXT M3 _ f23 (fun _ => m3) il ?_, fun w4 => absurd rfl w4⟩
              rw [cif_pos hO, es, cif_neg (fun h => z2 (tq.2 (PE.1 h))), u90]
  refine m316 [fx 168] ?_
  refine mfault_Y (d := d) gf gs hs (fun M1 F1 ok1 => ?_)
  rw [ft_cg hag]
  have gO : ftO g s ↔ ftO f s := by rw [← ft_0, ← ft_0, ft_cg hag]
  have ok : ftO f s → mtM M1 f s := fun h => mtM_cg hag (gO.2 h) (ok1 (gO.2 h))
  obtain ⟨R, gR⟩ : ∃ R : FM, R = pq M1 168 90 0 := ⟨_, rfl⟩
  have ro : ∀ c : Nat, c ≠ 168 → R c = M1 c := fun c hc => by rw [gR, pq_o _ _ _ hc]
  have rn : ∀ j : Int, j ≠ 90 → R 168 j = M1 168 j := fun j hj => by rw [gR, pq_ne _ _ _ _ hj]
  have r90 : R 168 90 = 0 := by rw [gR, pq_at]
  have FR : maS M R := ⟨fun c c1 c2 c3 => (ro c c1).trans (F1.1 c c1 c2 c3), fun j j1 j2 => (rn j j2).trans (F1.2 j j1)⟩
  have okR : ftO f s → mtM R f s := fun h => mtM_to (ok h) (fun c hc => ro c (by omega)) (fun j hj => rn j (by omega))
  have z90 : R 168 90 = cif (ftO f s) (stC P 0) ((0 : Nat) : Int) := by
    rw [r90]
    rcases cif_or (ftO f s) (stC P 0) ((0 : Nat) : Int) with e | e
    · rw [e]
      rfl
    · rw [e]
      rfl
  refine ⟨by omega, fun w => ?_, fun w => ?_⟩
  · have F := LOOP 0 (Or.inr ⟨rfl, fun q => w (ft_0.2 q)⟩) (L.length + 1) 0 R (by omega) (by omega) FR okR z90
    rw [gR] at F
    exact F
  · have F := LOOP 1 (Or.inl ⟨rfl, ft_0.1 w⟩) (L.length + 1) 0 R (by omega) (by omega) FR okR z90
    rw [gR] at F
    exact F
end MCOUNT
