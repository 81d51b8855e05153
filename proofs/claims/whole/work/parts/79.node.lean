/-! CONTRACTS: a new node of the class -/
def nodeF (id kind giv dep : Int) : Int → Int := fun i => if i = 0 then id else if i = 1 then kind else if i = 2 then (if kind = 4 ∨ kind = 5 then giv else 0) else if i = 4 then dep else if i = 5 then (if kind = 1 then 493 else 420) else if i = 13 then -1 else 0
/-- a node whose target is not settled yet -/
def nodeFm (h : Option Nat) : List (Option (Option Nat)) := [none, none, none, some h, none, none, none, none, none, none, none, none, none, none, none, none, none, none, none, none]
theorem fvs_13 {f : Int → Int} {h t : Option Nat} (e : dv (kY 3 13) (f 13) = (match t with | none => .null | some r => .ref r)) : fvs (kY 3) (nodeFm h) 0 f = fvs (kY 3) (nodeFl h t) 0 f := by
  cases h <;> cases t
  · exact congrArg (fun v => [dv (kY 3 0) (f 0), dv (kY 3 1) (f 1), dv (kY 3 2) (f 2), .null, dv (kY 3 4) (f 4), dv (kY 3 5) (f 5), dv (kY 3 6) (f 6), dv (kY 3 7) (f 7), dv (kY 3 8) (f 8), dv (kY 3 9) (f 9), dv (kY 3 10) (f 10), dv (kY 3 11) (f 11), dv (kY 3 12) (f 12), v, dv (kY 3 14) (f 14), dv (kY 3 15) (f 15), dv (kY 3 16) (f 16), dv (kY 3 17) (f 17), dv (kY 3 18) (f 18), dv (kY 3 19) (f 19)]) e
  · exact congrArg (fun v => [dv (kY 3 0) (f 0), dv (kY 3 1) (f 1), dv (kY 3 2) (f 2), .null, dv (kY 3 4) (f 4), dv (kY 3 5) (f 5), dv (kY 3 6) (f 6), dv (kY 3 7) (f 7), dv (kY 3 8) (f 8), dv (kY 3 9) (f 9), dv (kY 3 10) (f 10), dv (kY 3 11) (f 11), dv (kY 3 12) (f 12), v, dv (kY 3 14) (f 14), dv (kY 3 15) (f 15), dv (kY 3 16) (f 16), dv (kY 3 17) (f 17), dv (kY 3 18) (f 18), dv (kY 3 19) (f 19)]) e
  · rename_i q
    exact congrArg (fun v => [dv (kY 3 0) (f 0), dv (kY 3 1) (f 1), dv (kY 3 2) (f 2), .ref q, dv (kY 3 4) (f 4), dv (kY 3 5) (f 5), dv (kY 3 6) (f 6), dv (kY 3 7) (f 7), dv (kY 3 8) (f 8), dv (kY 3 9) (f 9), dv (kY 3 10) (f 10), dv (kY 3 11) (f 11), dv (kY 3 12) (f 12), v, dv (kY 3 14) (f 14), dv (kY 3 15) (f 15), dv (kY 3 16) (f 16), dv (kY 3 17) (f 17), dv (kY 3 18) (f 18), dv (kY 3 19) (f 19)]) e
  · rename_i q _
    exact congrArg (fun v => [dv (kY 3 0) (f 0), dv (kY 3 1) (f 1), dv (kY 3 2) (f 2), .ref q, dv (kY 3 4) (f 4), dv (kY 3 5) (f 5), dv (kY 3 6) (f 6), dv (kY 3 7) (f 7), dv (kY 3 8) (f 8), dv (kY 3 9) (f 9), dv (kY 3 10) (f 10), dv (kY 3 11) (f 11), dv (kY 3 12) (f 12), v, dv (kY 3 14) (f 14), dv (kY 3 15) (f 15), dv (kY 3 16) (f 16), dv (kY 3 17) (f 17), dv (kY 3 18) (f 18), dv (kY 3 19) (f 19)]) e
section NODE
variable {d nx zl : Nat} {K : Option TV → FH → Prop} {sh : Nat → Option Shp} {M : FM}
theorem nodeInit_Y {id kind giv : Int} {af : Nat} {h1 t1 : Option Nat} (hx : fxN ≤ nx) (hk : -2147483648 ≤ kind ∧ kind ≤ 2147483647) (hsf : shp sh af = some (.inr (3, nodeFl h1 t1))) (haf : af ≠ nx) (k : K none (shN sh nx (.inr (3, nodeFm (some af))), um M nx (nodeF id kind giv (M af 4 + 1)), nx + 1, zl + 20)) : fm_Y (d + 1) 3 [.ref nx, .int (Int32.ofInt id), .int (Int32.ofInt kind), .int (Int32.ofInt giv), .ref af] (shN sh nx (.inr (3, List.replicate 20 none)), um M nx zr3, nx + 1, zl + 20) K := by
  have hx2 : 265 ≤ nx := hx
  have s1 : shp (shN sh nx (.inr (3, List.replicate 20 none))) nx = some (.inr (3, List.replicate 20 none)) := shp_N hx
  have s2 : shp (shN sh nx (.inr (3, List.replicate 20 none))) af = some (.inr (3, nodeFl h1 t1)) := (shp_O haf).trans hsf
  have q : fm_Y (d + 1) 3 [.ref nx, .int (Int32.ofInt id), .int (Int32.ofInt kind), .int (Int32.ofInt giv), .ref af] (shN sh nx (.inr (3, List.replicate 20 none)), um M nx zr3, nx + 1, zl + 20) (fun w H => w = none ∧ ∃ g m : Int, g = (if kind = 4 ∨ kind = 5 then giv else 0) ∧ m = (if kind = 1 then 493 else 420) ∧ H = (shN sh nx (.inr (3, List.replicate 20 none)), um M nx (ur (ur (ur (ur (ur (ur zr3 0 id) 1 kind) 2 g) 3 af) 4 (M af 4 + 1)) 5 m), nx + 1, zl + 20)) := by
    refine m3 [gr nx, ti id, ti kind, ti giv, gr af] ?_
    have T : ∀ g : Int, g = (if kind = 4 ∨ kind = 5 then giv else 0) → b3_30 d (fW d kd3 (fun w H => w = none ∧ ∃ g m : Int, g = (if kind = 4 ∨ kind = 5 then giv else 0) ∧ m = (if kind = 1 then 493 else 420) ∧ H = (shN sh nx (.inr (3, List.replicate 20 none)), um M nx (ur (ur (ur (ur (ur (ur zr3 0 id) 1 kind) 2 g) 3 af) 4 (M af 4 + 1)) 5 m), nx + 1, zl + 20))) (fun w H => w = none ∧ ∃ g m : Int, g = (if kind = 4 ∨ kind = 5 then giv else 0) ∧ m = (if kind = 1 then 493 else 420) ∧ H = (shN sh nx (.inr (3, List.replicate 20 none)), um M nx (ur (ur (ur (ur (ur (ur zr3 0 id) 1 kind) 2 g) 3 af) 4 (M af 4 + 1)) 5 m), nx + 1, zl + 20)) [some (gr nx), some (ti id), some (ti kind), some (ti giv), some (gr af)] [ti g, gr nx] (shN sh nx (.inr (3, List.replicate 20 none)), um M nx (ur (ur zr3 0 id) 1 kind), nx + 1, zl + 20) := by
      intro g hg
      refine ⟨_, ⟨by omega, s1, rfl⟩, ?_⟩
      refine ⟨_, ⟨by omega, s1, rfl⟩, ?_⟩
      refine ⟨_, s2, ?_⟩
      refine ⟨_, ⟨by omega, s1, rfl⟩, ?_⟩
      refine ⟨by omega, fun w => ?_, fun w => ?_⟩
      · refine ⟨_, ⟨by omega, s1, rfl⟩, ?_⟩
        refine ⟨rfl, g, 420, hg, by rw [if_neg w], ?_⟩
        simp only [um_um, um_at, um_ne haf]
      · refine ⟨_, ⟨by omega, s1, rfl⟩, ?_⟩
        refine ⟨rfl, g, 493, hg, by rw [if_pos w], ?_⟩
        simp only [um_um, um_at, um_ne haf]
    have T2 := T
    refine ⟨_, ⟨by omega, s1, rfl⟩, ?_⟩
    refine ⟨_, ⟨by omega, s1, rfl⟩, ?_⟩
    have e0 : um (um (um M nx zr3) nx (ur (um M nx zr3 nx) 0 id)) nx (ur (um (um M nx zr3) nx (ur (um M nx zr3 nx) 0 id) nx) 1 kind) = um M nx (ur (ur zr3 0 id) 1 kind) := by
      simp only [um_um, um_at]
    rw [← e0] at T
    refine ⟨by omega, fun w => ?_, fun w => ?_⟩
    · exact T giv (by rw [if_pos (Or.inl w)])
    · refine ⟨by omega, fun w2 => ?_, fun w2 => ?_⟩
      · exact T 0 (by rw [if_neg (fun z => z.elim w w2)])
      · exact T giv (by rw [if_pos (Or.inr w2)])
  refine fm_Y.impE q (fun w H e => ?_)
  obtain ⟨rfl, g, m, rfl, rfl, rfl⟩ := e
  refine ⟨_, ?_, k⟩
  refine E_ext (fun c => ?_)
  by_cases e1 : c = nx
  · subst e1
    rw [shp_N hx, shp_N hx, um_at, um_at]
    simp only [Option.map_some, cellE]
    congr 3
  · rw [shp_O e1, shp_O e1, um_ne e1, um_ne e1]
/-- the cells with the new node in its row -/
def mk1 (M : FM) (nx : Nat) : FM := um (um M 11 (ur (M 11) (M 8 2) nx)) 8 (ur (um M 11 (ur (M 11) (M 8 2) nx) 8) 2 (um M 11 (ur (M 11) (M 8 2) nx) 8 2 + 1))
theorem mk1_8 (M : FM) (nx : Nat) : mk1 M nx 8 = ur (M 8) 2 (M 8 2 + 1) := by
  unfold mk1
  rw [um_at]
  rfl
theorem mk1_11 (M : FM) (nx : Nat) : mk1 M nx 11 = ur (M 11) (M 8 2) nx := by
  unfold mk1
  rw [um_ne (by decide), um_at]
theorem mk1_o (M : FM) (nx : Nat) {c : Nat} (h1 : c ≠ 8) (h2 : c ≠ 11) : mk1 M nx c = M c := by
  unfold mk1
  rw [um_ne h1, um_ne h2]
theorem tail25 {sh1 : Nat → Option Shp} {a af : Nat} {F kind giv N t p : Int} {h1 t1 h2 t2 : Option Nat} {fl : List (Option (Option Nat))} (hx : fxN ≤ nx) (hfr : ∀ c, nx ≤ c → sh1 c = none) (hN : 0 ≤ N ∧ N ≤ 16384) (hU : ∀ c, c ≠ a → shp sh c = shp sh1 c) (hUa : shp sh a = some (.inr (3, fl))) (hC : cellE (.inr (3, fl)) (M a) = cellE (.inr (3, nodeFl h2 t2)) (M a)) (hSa : shp sh1 a = some (.inr (3, nodeFl h2 t2))) (hSf : shp sh1 af = some (.inr (3, nodeFl h1 t1))) (ha : 265 ≤ a) (haf : af = 17 ∨ 265 ≤ af) (hne : af ≠ a) (hi : 0 ≤ M 8 2 ∧ M 8 2 < 2000)
    (hp0 : 0 ≤ p) (hp1 : p ≤ M 8 7) (he : M 8 7 < 2000)
    (h12 : ∀ k : Int, 0 ≤ k → k < M 8 7 → ∃ (a : Nat) (fl : List (Option (Option Nat))), M 12 k = a ∧ shp sh1 a = some (.inr (3, fl))) (h13 : ∀ k : Int, 0 ≤ k → k < M 8 7 → ∃ (a : Nat) (fl : List (Option (Option Nat))), M 13 k = a ∧ shp sh1 a = some (.inr (3, fl))) (h14 : ∀ k : Int, 0 ≤ k → k < M 8 7 → ∃ (a : Nat) (fl : List (Option (Option Nat))), M 14 k = a ∧ shp sh1 a = some (.inr (1, fl)))
    (k : ∀ M2 : FM, insF (mk1 M a) M2 p af a 5 nx N → K (some (ti (M a 0))) (nrS sh1 nx N.toNat, M2, nx + 2, zl + 3 + N.toNat)) : b25_259 (d + 2) (fW (d + 2) kd25 K) K [some (fx 8), some (ti F), some (ti kind), some (ti giv), some (fx 4), some (gr af), some (ti N), some (ti t), some (ti p), some (gr a)] [] (sh, M, nx, zl) := by
  refine ⟨⟨by omega, by omega⟩, rok_3 rfl hUa, ?_⟩
  have m8 := mk1_8 M a
  have q7 : mk1 M a 8 7 = M 8 7 := by rw [m8]; rfl
  refine fm_Y.eqE (h2 := (sh1, mk1 M a, nx, zl)) ?_ ?_
  · refine E_ext (fun c => ?_)
    show _ = Option.map (fun s => cellE s (mk1 M a c)) (shp sh1 c)
    by_cases e : c = a
    · subst e
      rw [hUa, hSa]
      simp only [Option.map_some]
      have e2 : mk1 M c c = M c := mk1_o M c (by omega) (by omega)
      show some (cellE _ (mk1 M c c)) = some (cellE _ (mk1 M c c))
      rw [e2, hC]
    · rw [hU c e]
      rfl
  · refine insert_Y (t := 4) (tb := 5) (tn := 16384) (h1 := h1) (t1 := t1) (h2 := h2) (t2 := t2) hx hfr (rowS_4 sh1) hN.1 (by omega) hN.2 hSf hSa haf (Or.inr ha) hne hp0 (by omega) (by omega) ?_ ?_ ?_ (fun M2 hI => ?_)
    · rw [q7, mk1_o M a (by decide) (by decide)]
      exact h12
    · rw [q7, mk1_o M a (by decide) (by decide)]
      exact h13
    · rw [q7, mk1_o M a (by decide) (by decide)]
      exact h14
    · have hfr2 := shp_fresh hx hfr hSa
      refine ⟨_, (nrS_o hfr2.1 hfr2.2).trans hSa, ?_⟩
      have z := k M2 hI
      have e0 : M2 a 0 = M a 0 := by
        rw [hI.2.2.2.2.1, ur_ne (by omega), mk1_o M a (by omega) (by omega)]
      rw [← e0] at z
      exact z
end NODE
