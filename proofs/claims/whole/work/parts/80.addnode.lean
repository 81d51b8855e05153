/-! CONTRACTS: the class's addNode -/
def mkS (sh sh1 : Nat → Option Shp) (nx nx1 zl zl1 af : Nat) (kind t : Int) : Prop :=
  (nx < nx1 ∧ nx1 ≤ nx + 3 ∧ zl1 ≤ zl + 23 + t.toNat) ∧ (∀ c, nx1 ≤ c → sh1 c = none) ∧ (∀ c, c < nx → sh1 c = sh c)
  ∧ (kind ≠ 3 → shp sh1 nx = some (.inr (3, nodeFl (some af) none)))
  ∧ (kind = 3 → shp sh1 nx = some (.inr (3, nodeFl (some af) (some (nx + 1)))) ∧ shp sh1 (nx + 1) = some (.inr (1, [some (some (nx + 2)), none, none])) ∧ shp sh1 (nx + 2) = some (.inl (.byte, t.toNat)) ∧ nx1 = nx + 3)
def mkU (M MU : FM) (nx : Nat) (kind giv dep N t : Int) : Prop :=
  (∀ i, i ≠ 13 → MU nx i = nodeF (M 8 2) kind giv dep i) ∧ (∀ i, i ≠ 9 → MU 8 i = M 8 i) ∧ MU 8 9 = M 8 9 + t
  ∧ (kind = 3 → MU (nx + 1) 1 = t ∧ sl (MU (nx + 2)) 0 t.toNat = sl (M 5) (N + 1) t.toNat)
  ∧ (∀ c : Nat, c ≠ 8 → c < nx → MU c = M c)
theorem cellE_13 {f : Int → Int} {h t : Option Nat} (e : dv (kY 3 13) (f 13) = (match t with | none => .null | some r => .ref r)) : cellE (.inr (3, nodeFm h)) f = cellE (.inr (3, nodeFl h t)) f := congrArg (fun l => (.inr (3, l) : eg_C)) (fvs_13 e)
section ADDNODE
variable {d nx zl : Nat} {K : Option TV → FH → Prop} {sh : Nat → Option Shp} {M : FM}
theorem mk193 {af : Nat} {F kind giv N t p : Int} {h1 t1 : Option Nat} (hx : fxN ≤ nx) (hfr : ∀ c, nx ≤ c → sh c = none) (hk : 1 ≤ kind ∧ kind ≤ 7) (hN : 0 ≤ N ∧ N ≤ 16384) (h3 : kind = 3 → 0 ≤ t ∧ t ≤ 4096 ∧ N + 1 + t ≤ 16384) (hn3 : kind ≠ 3 → t = 0) (hSf : shp sh af = some (.inr (3, nodeFl h1 t1))) (haf : af = 17 ∨ 265 ≤ af) (hi : 0 ≤ M 8 2 ∧ M 8 2 < 2000)
    (hp0 : 0 ≤ p) (hp1 : p ≤ M 8 7) (he : M 8 7 < 2000)
    (h12 : ∀ k : Int, 0 ≤ k → k < M 8 7 → ∃ (a : Nat) (fl : List (Option (Option Nat))), M 12 k = a ∧ shp sh a = some (.inr (3, fl))) (h13 : ∀ k : Int, 0 ≤ k → k < M 8 7 → ∃ (a : Nat) (fl : List (Option (Option Nat))), M 13 k = a ∧ shp sh a = some (.inr (3, fl))) (h14 : ∀ k : Int, 0 ≤ k → k < M 8 7 → ∃ (a : Nat) (fl : List (Option (Option Nat))), M 14 k = a ∧ shp sh a = some (.inr (1, fl)))
    (k : ∀ (sh1 : Nat → Option Shp) (MU M2 : FM) (nx1 zl1 : Nat), mkS sh sh1 nx nx1 zl zl1 af kind t → mkU M MU nx kind giv (M af 4 + 1) N t → insF (mk1 MU nx) M2 p af nx 5 nx1 N → K (some (ti (M 8 2))) (nrS sh1 nx1 N.toNat, M2, nx1 + 2, zl1 + 3 + N.toNat)) : b25_193 (d + 2) (fW (d + 2) kd25 K) K [some (fx 8), some (ti F), some (ti kind), some (ti giv), some (fx 4), some (gr af), some (ti N), some (ti t), some (ti p), none] [] (sh, M, nx, zl) := by
  have hx2 : 265 ≤ nx := hx
  have FR : ∀ c, nx ≤ c → shp sh c = none := by
    intro c hc
    unfold shp
    rw [fsh_hi (by omega)]
    exact hfr c hc
  have LT : ∀ {c : Nat} {s : Shp}, shp sh c = some s → c < nx := by
    intro c s hs
    by_cases e : nx ≤ c
    · rw [FR c e] at hs
      cases hs
    · omega
  have hafn : af ≠ nx := by
    have := LT hSf
    omega
  refine ⟨hx, ?_⟩
  refine nodeInit_Y (h1 := h1) (t1 := t1) hx (by omega) hSf hafn ?_
  generalize hf : nodeF (M 8 2) kind giv (M af 4 + 1) = f
  have hf9 : nodeF (um M nx zr3 8 2) kind giv (M af 4 + 1) = f := by rw [um_ne (by omega)]; exact hf
  have hf0 : f 0 = M 8 2 := by rw [← hf]; rfl
  have hf13 : f 13 = -1 := by rw [← hf]; rfl
  rw [hf9]
  have e8 : um M nx f 8 = M 8 := um_ne (by omega)
  refine ⟨by omega, fun w => ?_, fun w => ?_⟩
  · have w2 : kind ≠ 3 := by omega
    have t0 := hn3 w2
    have O : ∀ c : Nat, c < nx → shp (shN sh nx (.inr (3, nodeFl (some af) none))) c = shp sh c := fun c hc => shp_O (by omega)
    refine tail25 (sh1 := shN sh nx (.inr (3, nodeFl (some af) none))) (fl := nodeFm (some af)) (h1 := h1) (t1 := t1) (h2 := some af) (t2 := none) (by omega) ?_ hN ?_ (shp_N hx) ?_ (shp_N hx) ((shp_O hafn).trans hSf) hx2 haf hafn (by rw [e8]; exact hi) hp0 (by rw [e8]; exact hp1) (by rw [e8]; exact he) ?_ ?_ ?_ ?_
    · intro c hc
      unfold shN
      rw [if_neg (by omega)]
      exact hfr c (by omega)
    · intro c hc
      rw [shp_O hc, shp_O hc]
    · rw [um_at]
      refine cellE_13 ?_
      rw [hf13]
      rfl
    · rw [e8, um_ne (by omega)]
      intro i i0 i1
      obtain ⟨a, fl, q1, q2⟩ := h12 i i0 i1
      exact ⟨a, fl, q1, (O a (LT q2)).trans q2⟩
    · rw [e8, um_ne (by omega)]
      intro i i0 i1
      obtain ⟨a, fl, q1, q2⟩ := h13 i i0 i1
      exact ⟨a, fl, q1, (O a (LT q2)).trans q2⟩
    · rw [e8, um_ne (by omega)]
      intro i i0 i1
      obtain ⟨a, fl, q1, q2⟩ := h14 i i0 i1
      exact ⟨a, fl, q1, (O a (LT q2)).trans q2⟩
    · intro M2 hI
      have z := k (shN sh nx (.inr (3, nodeFl (some af) none))) (um M nx f) M2 (nx + 1) (zl + 20) ⟨⟨by omega, by omega, by omega⟩, ?_, ?_, fun _ => shp_N hx, fun q => absurd q w2⟩ ⟨?_, ?_, ?_, fun q => absurd q w2, ?_⟩ hI
      · rw [um_at, hf0]
        exact z
      · intro c hc
        unfold shN
        rw [if_neg (by omega)]
        exact hfr c (by omega)
      · intro c hc
        unfold shN
        rw [if_neg (by omega)]
      · intro i hi
        rw [um_at, hf]
      · intro i _
        rw [e8]
      · rw [e8, t0]
        omega
      · intro c _ hc
        exact um_ne (by omega)
  · have w2 : kind = 3 := by omega
    obtain ⟨t0, t1, t2⟩ := h3 w2
    refine ⟨by omega, ?_⟩
    refine rowInit_Y (nx := nx + 1) (zl := zl + 20) (by omega) t0 (by omega) ?_
    have SN : shp (nrS (shN sh nx (.inr (3, nodeFm (some af)))) (nx + 1) t.toNat) nx = some (.inr (3, nodeFm (some af))) := (nrS_o (by omega) (by omega)).trans (shp_N hx)
    refine ⟨_, ⟨by omega, SN, rfl⟩, ?_⟩
    obtain ⟨M', hM'⟩ : ∃ M' : FM, M' = um (nrM (um M nx f) (nx + 1)) nx (ur (nrM (um M nx f) (nx + 1) nx) 13 ((nx + 1 : Nat) : Int)) := ⟨_, rfl⟩
    have n1 : M' nx = ur f 13 ((nx + 1 : Nat) : Int) := by
      rw [hM', um_at, nrM_o (by omega) (by omega), um_at]
    have n2 : M' (nx + 1) = fun _ => 0 := by
      rw [hM', um_ne (by omega)]
      unfold nrM
      rw [um_ne (by omega), um_at]
    have n4 : ∀ c : Nat, c < nx → M' c = M c := by
      intro c hc
      rw [hM', um_ne (by omega), nrM_o (by omega) (by omega), um_ne (by omega)]
    refine ⟨_, SN, fun m e => ?_, fun e => ?_⟩
    · have em : m = nx + 1 := by
        have e2 : M' nx 13 = m := by rw [hM']; exact e
        rw [n1, ur_at] at e2
        omega
      subst em
      have h1x : M' (nx + 1) 1 = 0 := by rw [n2]
      refine ⟨⟨_, nrS_r (by omega)⟩, ?_⟩
      refine fm_Y.eqE (h2 := (nrS (shN sh nx (.inr (3, nodeFm (some af)))) (nx + 1) t.toNat, M', nx + 1 + 2, zl + 20 + 3 + t.toNat)) (by rw [hM']) ?_
      refine putAll_M (a := nx + 1) (b := nx + 1 + 1) (c := 5) (na := t.toNat) (nc := 16384) (nrS_row (by omega) (by omega)) rfl (by omega) (by omega) (by omega) (by omega) (by omega) t0 (by omega) (by omega) ?_
      obtain ⟨P, hP⟩ : ∃ P : FM, P = rowW M' (nx + 1) (nx + 1 + 1) (cpf (M' 5) (M' (nx + 1 + 1)) (N + 1) (M' (nx + 1) 1) t) (M' (nx + 1) 1 + t) (M' (nx + 1) 2) := ⟨_, rfl⟩
      have p1 : P (nx + 1) 1 = t := by
        rw [hP, rowW_1, h1x]
        omega
      have p2 : sl (P (nx + 2)) 0 t.toNat = sl (M 5) (N + 1) t.toNat := by
        rw [hP, show nx + 2 = nx + 1 + 1 by omega, rowW_b (by omega), h1x, sl_cpf t0, n4 5 (by omega)]
      have p3 : ∀ c : Nat, c ≠ nx + 1 → c ≠ nx + 2 → P c = M' c := fun c c1 c2 => by
        rw [hP, rowW_o c1 (by omega)]
      obtain ⟨MU, hMU⟩ : ∃ MU : FM, MU = um P 8 (ur (P 8) 9 (P 8 9 + t)) := ⟨_, rfl⟩
      have P8 : P 8 = M 8 := (p3 8 (by omega) (by omega)).trans (n4 8 (by omega))
      have U8 : MU 8 = ur (M 8) 9 (M 8 9 + t) := by rw [hMU, um_at, P8]
      have U82 : MU 8 2 = M 8 2 := by rw [U8, ur_ne (by omega)]
      have U87 : MU 8 7 = M 8 7 := by rw [U8, ur_ne (by omega)]
      have UO : ∀ c : Nat, c ≠ 8 → MU c = P c := fun c hc => by rw [hMU, um_ne hc]
      have UM : ∀ c : Nat, c ≠ 8 → c < nx → MU c = M c := fun c c1 c2 => ((UO c c1).trans (p3 c (by omega) (by omega))).trans (n4 c c2)
      have UN : MU nx = ur f 13 ((nx + 1 : Nat) : Int) := by rw [UO nx (by omega), p3 nx (by omega) (by omega), n1]
      have O : ∀ c : Nat, c < nx → shp (nrS (shN sh nx (.inr (3, nodeFl (some af) (some (nx + 1))))) (nx + 1) t.toNat) c = shp sh c := fun c hc => by
        rw [nrS_o (by omega) (by omega), shp_O (by omega)]
      have SN1 : shp (nrS (shN sh nx (.inr (3, nodeFl (some af) (some (nx + 1))))) (nx + 1) t.toNat) nx = some (.inr (3, nodeFl (some af) (some (nx + 1)))) := (nrS_o (by omega) (by omega)).trans (shp_N hx)
      have FR1 : ∀ c : Nat, nx + 3 ≤ c → nrS (shN sh nx (.inr (3, nodeFl (some af) (some (nx + 1))))) (nx + 1) t.toNat c = none := by
        intro c hc
        unfold nrS shN
        rw [if_neg (by omega), if_neg (by omega), if_neg (by omega)]
        exact hfr c (by omega)
      have TL : b25_259 (d + 2) (fW (d + 2) kd25 K) K [some (fx 8), some (ti F), some (ti kind), some (ti giv), some (fx 4), some (gr af), some (ti N), some (ti t), some (ti p), some (gr nx)] [] (nrS (shN sh nx (.inr (3, nodeFm (some af)))) (nx + 1) t.toNat, MU, nx + 1 + 2, zl + 20 + 3 + t.toNat) := by
        refine tail25 (sh1 := nrS (shN sh nx (.inr (3, nodeFl (some af) (some (nx + 1))))) (nx + 1) t.toNat) (fl := nodeFm (some af)) (h1 := h1) (h2 := some af) (t2 := some (nx + 1)) (by omega) FR1 hN ?_ SN ?_ SN1 ((O af (LT hSf)).trans hSf) hx2 haf hafn (by rw [U82]; exact hi) hp0 (by rw [U87]; exact hp1) (by rw [U87]; exact he) ?_ ?_ ?_ ?_
        · intro c hc
          by_cases e1 : c = nx + 1
          · subst e1
            rw [nrS_r (by omega), nrS_r (by omega)]
          · by_cases e2 : c = nx + 1 + 1
            · subst e2
              rw [nrS_b (by omega), nrS_b (by omega)]
            · rw [nrS_o e1 e2, nrS_o e1 e2, shp_O hc, shp_O hc]
        · rw [UN]
          refine cellE_13 ?_
          rw [ur_at]
          rfl
        · rw [U87, UM 12 (by omega) (by omega)]
          intro i i0 i1
          obtain ⟨a, fl, q1, q2⟩ := h12 i i0 i1
          exact ⟨a, fl, q1, (O a (LT q2)).trans q2⟩
        · rw [U87, UM 13 (by omega) (by omega)]
          intro i i0 i1
          obtain ⟨a, fl, q1, q2⟩ := h13 i i0 i1
          exact ⟨a, fl, q1, (O a (LT q2)).trans q2⟩
        · rw [U87, UM 14 (by omega) (by omega)]
          intro i i0 i1
          obtain ⟨a, fl, q1, q2⟩ := h14 i i0 i1
          exact ⟨a, fl, q1, (O a (LT q2)).trans q2⟩
        · intro M2 hI
          have z := k (nrS (shN sh nx (.inr (3, nodeFl (some af) (some (nx + 1))))) (nx + 1) t.toNat) MU M2 (nx + 3) (zl + 20 + 3 + t.toNat) ⟨⟨by omega, by omega, by omega⟩, FR1, ?_, fun q => absurd w2 q, fun _ => ⟨SN1, nrS_r (by omega), nrS_b (by omega), rfl⟩⟩ ⟨?_, ?_, ?_, fun _ => ⟨?_, ?_⟩, UM⟩ hI
          · rw [UN, ur_ne (by omega), hf0]
            exact z
          · intro c hc
            unfold nrS shN
            rw [if_neg (by omega), if_neg (by omega), if_neg (by omega)]
          · intro i hi
            rw [UN, ur_ne hi, hf]
          · intro i hi
            rw [U8, ur_ne hi]
          · rw [U8, ur_at]
          · rw [UO _ (by omega)]
            exact p1
          · rw [UO _ (by omega)]
            exact p2
      rw [hMU, hP] at TL
      exact TL
    · exfalso
      have e2 : M' nx 13 < 0 := by rw [hM']; exact e
      rw [n1, ur_at] at e2
      omega
end ADDNODE
