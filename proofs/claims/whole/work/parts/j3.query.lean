/-! QUERIES: what they leave; has, isInode -/
def wF (M M2 : FM) : Prop := (∀ c : Nat, (c = 1 ∨ c = 2 ∨ 50 ≤ c ∧ c ≤ 63 ∨ 97 ≤ c ∧ c ≤ 128 ∧ c ≠ 100 ∨ 151 ≤ c ∧ c ≤ 164 ∨ c = 167 ∨ 211 ≤ c ∧ c ≤ 263) → M2 c = M c) ∧ ∀ i : Int, (58 ≤ i ∧ i ≤ 110 ∨ 119 ≤ i ∧ i ≤ 123) → M2 168 i = M 168 i
theorem mtC_w {M M2 : FM} {f : Int → Int} {s : Int} (h : mtC M f s) (e : ∀ c : Nat, (c = 1 ∨ c = 2 ∨ 97 ≤ c ∧ c ≤ 128 ∧ c ≠ 100 ∨ 151 ≤ c ∧ c ≤ 164 ∨ c = 167) → M2 c = M c) : mtC M2 f s := by
  obtain ⟨⟨a1, a2, a3, a4, a5⟩, b1, b2, b3, b4⟩ := h
  unfold mtC
  rw [e 127 (by omega), e 128 (by omega), e 97 (by omega), e 115 (by omega), e 167 (by omega)]
  refine ⟨⟨ltC_to a1 (fun c hc => e c (by omega)), ?_, ?_, ?_, uFx_to a5 (fun c hc => e c (by omega))⟩, b1, b2, b3, b4⟩
  · rw [e 97 (by omega)]
    exact a2
  · rw [e 98 (by omega), e 99 (by omega)]
    exact a3
  · rw [e 119 (by omega), e 120 (by omega)]
    exact a4
theorem mtM_w {M M2 : FM} {f : Int → Int} {s : Int} (h : mtM M f s) (e : ∀ c : Nat, 211 ≤ c ∧ c ≤ 263 → M2 c = M c) (e2 : ∀ i : Int, (92 ≤ i ∧ i ≤ 98 ∨ i = 119) → M2 168 i = M 168 i) : mtM M2 f s := by
  obtain ⟨⟨a1, a2, a3, a4⟩, b1, b2, b3⟩ := h
  obtain ⟨⟨⟨l1, l2, l3, l4⟩, l5, l6, l7⟩, lb, lc, lf2⟩ := a1
  unfold mtM s8M mlC ndM
  rw [e 257 (by omega), e 263 (by omega), e2 119 (by omega), e2 98 (by omega), e 211 (by omega), e 249 (by omega), e 238 (by omega), e 239 (by omega), e 241 (by omega), e 242 (by omega), e 243 (by omega), e 244 (by omega), e 245 (by omega), e 259 (by omega), e 260 (by omega), e2 92 (by omega), e2 93 (by omega), e2 94 (by omega), e2 95 (by omega)]
  exact ⟨⟨⟨⟨⟨l1, l2, l3, l4⟩, l5, l6, l7⟩, lb, lc, lf2⟩, a2, a3, a4⟩, b1, b2, b3⟩
theorem mlC_x {M M2 : FM} {IR IS LR LS : List Int} {B ids F n : Int} {pl h : Int → Int} (hL : mlC M IR IS LR LS B ids F n pl h) (e1 : ∀ c : Nat, 238 ≤ c ∧ c ≤ 260 → M2 c = M c) (e2 : ∀ i : Int, 92 ≤ i ∧ i ≤ 95 → M2 168 i = M 168 i) : mlC M2 IR IS LR LS B ids F n pl h := by
  obtain ⟨⟨⟨a1, a2, a3, a4⟩, a5, a6, a7⟩, b, c, f⟩ := hL
  unfold mlC ndM
  rw [e1 238 (by omega), e1 239 (by omega), e1 241 (by omega), e1 242 (by omega), e1 243 (by omega), e1 244 (by omega), e1 245 (by omega), e1 259 (by omega), e1 260 (by omega), e2 92 (by omega), e2 93 (by omega), e2 94 (by omega), e2 95 (by omega)]
  exact ⟨⟨⟨a1, a2, a3, a4⟩, a5, a6, a7⟩, b, c, f⟩
theorem VV_w {M M2 : FM} (h : VV KC WW M) (e : wF M M2) (e6 : M2 3 6 = M 3 6) (e7 : M2 3 7 = M 3 7) : VV KC WW M2 := by
  obtain ⟨⟨g1, g3, g4⟩, g5, g6, g7, hK⟩ := h
  obtain ⟨e1, e2⟩ := e
  refine ⟨⟨?_, ?_, ?_⟩, ?_, ?_, fun z => ?_, KC_to hK (fun c hc => e1 c (by omega)) (by rw [e1 114 (by omega)])⟩
  · rw [e1 98 (by omega)]
    exact g1
  · rw [e1 98 (by omega), e2 59 (by omega)]
    exact g3
  · rw [e1 99 (by omega), e1 211 (by omega), e2 59 (by omega)]
    exact g4
  · rw [e7, e2 90 (by omega)]
    exact g5
  · rw [e6, e2 91 (by omega)]
    exact g6
  · rw [e6] at z
    obtain ⟨w1, w2, w3⟩ := g7 z
    unfold WW
    rw [e1 211 (by omega), e2 59 (by omega)]
    exact ⟨w1, mtC_w w2 (fun c hc => e1 c (by omega)), mtM_w w3 (fun c hc => e1 c (by omega)) (fun i hi => e2 i (by omega))⟩
/-- behind a query: all is as it was but out -/
theorem RR_q {L k nx zl : Nat} {xs : Nat → Int32} {sh : Nat → Option Shp} {M M2 : FM} (hR : RR (VV KC WW) L xs k (sh, M, nx, zl)) (h1 : ∀ c : Nat, (c = 0 ∨ c = 4 ∨ c = 5 ∨ 8 ≤ c ∧ c ≤ 14 ∨ c = 17 ∨ c = 169 ∨ 171 ≤ c ∧ c ≤ 187 ∨ 265 ≤ c) → M2 c = M c) (h2 : ∀ i : Int, i ≤ 26 → i ≠ 4 → M2 168 i = M 168 i) (h3 : M2 3 = M 3) (hv : wF M M2) (ho : outR M2) : RR (VV KC WW) L xs (k + 1) (sh, M2, nx, zl) := by
  obtain ⟨hBase, ht, -, hT, hV⟩ := hR
  refine ⟨baseR_up hBase (h1 0 (by omega)), ?_, ho, ?_, VV_w hV hv (congrFun h3 6) (congrFun h3 7)⟩
  · show tapeR M2
    unfold tapeR
    rw [h2 1 (by omega) (by omega), h2 2 (by omega) (by omega), h1 169 (by omega), h3, h1 4 (by omega), h1 5 (by omega)]
    exact ht
  · exact treeR_same hT (fun c hc => h1 c (by omega)) (fun i i0 hi => h2 i hi (by omega))
theorem outR_to {M M2 : FM} (h : outR M) (e6 : M2 6 = M 6) (e7 : M2 7 = M 7) (e170 : M2 170 = M 170) (e4 : M2 168 4 = M 168 4) : outR M2 := by
  unfold outR
  rw [e6, e7, e170, e4]
  exact h
/-- an inode's number -/
def inq (M : FM) (j : Int) : Prop := M 3 6 % 2 ≠ 0 ∧ 1 ≤ j ∧ j ≤ M 168 92
section QUERY
variable {d nx zl : Nat} {K : Option TV → FH → Prop} {sh : Nat → Option Shp} {M : FM}
theorem has_Y {j : Int} (hj : -2147483648 ≤ j ∧ j ≤ 2147483647) (hV : VV KC WW M) (k : ∀ z : Int, (z = 1 ∧ inq M j ∨ z = 0 ∧ ¬ inq M j) → K (some (ti z)) (sh, M, nx, zl)) : fm_Y (d + 1) 225 [.ref 3, .int (Int32.ofInt j)] (sh, M, nx, zl) K := by
  have g7 := hV.2.2.2.1
  refine m225 [fx 3, ti j] ?_
  refine ⟨by omega, fun w => ⟨Or.inl rfl, k 0 (Or.inr ⟨rfl, fun q => q.1 (by omega)⟩)⟩, fun w => ?_⟩
  obtain ⟨-, w2, w3⟩ := g7 (by omega)
  have n1 := w2.1.1.1.2.1
  have n2 := w3.1.1.1.2.1
  refine ⟨by omega, fun w1 => ⟨Or.inl rfl, k 0 (Or.inr ⟨rfl, fun q => by have := q.2; omega⟩)⟩, fun w1 => ?_⟩
  refine ⟨by omega, fun w4 => ⟨Or.inl rfl, k 0 (Or.inr ⟨rfl, fun q => by have := q.2; omega⟩)⟩, fun w4 => ⟨Or.inr rfl, k 1 (Or.inl ⟨rfl, by omega, by omega, by omega⟩)⟩⟩
theorem isInode_Y {M0 : FM} {j : Int} (hj : -2147483648 ≤ j ∧ j ≤ 2147483647) (hV : VV KC WW M0) (e91 : M 168 91 = M0 168 91) (e92 : M 168 92 = M0 168 92) (k : ∀ z : Int, (z = 1 ∧ inq M0 j ∨ z = 0 ∧ ¬ inq M0 j) → K (some (ti z)) (sh, M, nx, zl)) : fm_Y (d + 1) 389 [.ref 168, .int (Int32.ofInt j)] (sh, M, nx, zl) K := by
  have g6 := hV.2.2.1
  have g7 := hV.2.2.2.1
  refine m389 [fx 168, ti j] ?_
  refine ⟨by omega, fun w => ⟨Or.inl rfl, k 0 (Or.inr ⟨rfl, fun q => q.1 (by omega)⟩)⟩, fun w => ?_⟩
  obtain ⟨-, w2, w3⟩ := g7 (by omega)
  have n2 := w3.1.1.1.2.1
  refine ⟨by omega, fun w1 => ⟨Or.inl rfl, k 0 (Or.inr ⟨rfl, fun q => by have := q.2; omega⟩)⟩, fun w1 => ?_⟩
  refine ⟨by omega, fun w4 => ⟨Or.inl rfl, k 0 (Or.inr ⟨rfl, fun q => by have := q.2; omega⟩)⟩, fun w4 => ⟨Or.inr rfl, k 1 (Or.inl ⟨rfl, by omega, by omega, by omega⟩)⟩⟩
end QUERY
