/-! CONTRACTS: more of the tree -/
section MORE
variable {d nx zl : Nat} {K : Option TV → FH → Prop} {sh : Nat → Option Shp} {M : FM} {F n : Int}
theorem ndR_inj {i j : Int} {a : Nat} (h1 : ndR sh M i a) (h2 : ndR sh M j a) : i = j := by
  obtain ⟨_, _, _, e1, _⟩ := h1
  obtain ⟨_, _, _, e2, _⟩ := h2
  exact e1.1.symm.trans e2.1
theorem isAt_Y {af t tb tn : Nat} {p : Int} (hT : treeR sh M) (ht : rowS sh t tb tn) (hn0 : 0 ≤ n) (hn : n ≤ tn) (hn2 : n ≤ 16384) (hF0 : 0 ≤ F) (hF1 : F < M 168 5) (hFl : live M F) (hFa : M 11 F = af) (hFr : ndR sh M F af) (hp : 0 ≤ p ∧ p ≤ M 168 20) (k1 : p < M 168 20 → M 183 p = F → nmL M p = sl (M tb) 0 n.toNat → K (some (ti 1)) (sh, M, nx, zl)) (k0 : ¬ (p < M 168 20 ∧ M 183 p = F ∧ nmL M p = sl (M tb) 0 n.toNat) → K (some (ti 0)) (sh, M, nx, zl)) : fm_Y (d + 2) 33 [.ref 8, .int (Int32.ofInt p), .ref af, .ref t, .int (Int32.ofInt n)] (sh, M, nx, zl) K := by
  refine m33 [fx 8, ti p, gr af, gr t, ti n] ?_
  have hN := hT.1.1.1
  obtain ⟨⟨e1, e2, e3, e4⟩, eE⟩ := hT.1.2.2.2.1
  obtain ⟨-, hA, -, -, -⟩ := hT.2.1
  refine ⟨by omega, fun w => ⟨Or.inl rfl, k0 (fun z => by omega)⟩, fun w => ?_⟩
  obtain ⟨c1, c2, r, b, c3, c4⟩ := hT.2.2.2.1 p hp.1 (by omega)
  obtain ⟨⟨f1, f2, fl, fk⟩, -, -, -⟩ := eE p hp.1 (by omega)
  obtain ⟨a, ha, hR⟩ := (hT.2.2.1 (M 183 p) f1 f2).1 fl
  refine ⟨by omega, fun m hm => ?_, fun hm => by omega⟩
  have em : m = a := by omega
  subst em
  have a3 : 3 ≤ m := by
    obtain ⟨_, _, q, _⟩ := hR
    rcases q.2 with q | q <;> omega
  have af3 : 3 ≤ af := by
    obtain ⟨_, _, q, _⟩ := hFr
    rcases q.2 with q | q <;> omega
  refine ⟨⟨a3, af3⟩, fun w2 => ?_, fun w2 => ?_⟩
  · have w3 : m = af := w2
    subst w3
    have eF := ndR_inj hR hFr
    refine ⟨by omega, fun m2 hm2 => ?_, fun hm2 => by omega⟩
    have em2 : m2 = r := by omega
    subst em2
    obtain ⟨⟨s1, s2⟩, ⟨s3, s4, s5⟩, s6, s7, s8⟩ := c4
    refine ⟨_, s1, ?_⟩
    refine ⟨by omega, fun m3 hm3 => ?_, fun hm3 => by omega⟩
    have em3 : m3 = m2 := by omega
    subst em3
    refine ⟨_, s1, ?_⟩
    refine ⟨_, ht.1.1, ?_⟩
    refine order_I (a := b) (b := tb) s2 ht.1.2 (by omega) ht.2.2.2.2 (by omega) (by omega) (by omega) hn0 (by omega) (by omega) ?_
    have ev : sl (M b) 0 (M m3 1).toNat = nmL M p := by
      rw [s7, Int.toNat_natCast]
      exact s8
    have hr := ordL_sl (M b) (M tb) 0 0 (M m3 1).toNat n.toNat
    rw [ev] at hr ⊢
    refine ⟨by omega, fun w4 => ⟨Or.inl rfl, k0 (fun z => w4 ((ordL_eq _ _).2 z.2.2))⟩, fun w4 => ⟨Or.inr rfl, k1 (by omega) eF ((ordL_eq _ _).1 w4)⟩⟩
  · refine ⟨Or.inl rfl, k0 (fun z => w2 ?_)⟩
    show m = af
    have : M 183 p = F := z.2.1
    rw [this] at ha
    omega
theorem hasRoom_Y (hT : treeR sh M) (hn : 0 ≤ n ∧ n ≤ 16384) (k1 : M 168 20 < 2000 → M 168 26 + n ≤ 32768 → K (some (ti 1)) (sh, M, nx, zl)) (k0 : ¬ (M 168 20 < 2000 ∧ M 168 26 + n ≤ 32768) → K (some (ti 0)) (sh, M, nx, zl)) : fm_Y (d + 1) 34 [.ref 8, .int (Int32.ofInt n)] (sh, M, nx, zl) K := by
  refine m34 [fx 8, ti n] ?_
  obtain ⟨⟨e1, e2, e3, e4⟩, eE⟩ := hT.1.2.2.2.1
  obtain ⟨-, hA, hB, -, -⟩ := hT.2.1
  refine ⟨by omega, fun w => ⟨Or.inl rfl, k0 (fun z => by omega)⟩, fun w => ?_⟩
  exact ⟨by omega, fun w2 => ⟨Or.inl rfl, k0 (fun z => by omega)⟩, fun w2 => ⟨Or.inr rfl, k1 (by omega) (by omega)⟩⟩
/-- depths of directories -/
def dpt (M : FM) (D : Int → Int) : Prop := D 0 = 0 ∧ ∀ i : Int, 0 ≤ i → i < M 168 5 → live M i → M 171 i = 1 → (0 ≤ D i ∧ D i ≤ 100) ∧ (0 < i → live M (M 178 i) ∧ M 171 (M 178 i) = 1 ∧ D i = D (M 178 i) + 1)
theorem tree_dpt (hT : treeR sh M) : dpt M (fun i => M (M 11 i).toNat 4) := by
  have hW := hT.1
  have hN := hW.1.1
  constructor
  · obtain ⟨a, ha, h9, t9, -, -, -, -, hD⟩ := (hT.2.2.1 0 (by omega) (by omega)).1 (Or.inl rfl)
    have ea : (M 11 0).toNat = a := by omega
    show M (M 11 0).toNat 4 = 0
    rw [ea]
    exact ((hD.2 hN.2.2).2.1 rfl).2
  · intro i h2 h3 h4 h5
    obtain ⟨a, ha, h9, t9, -, -, -, -, hD⟩ := (hT.2.2.1 i h2 h3).1 h4
    have ea : (M 11 i).toNat = a := by omega
    obtain ⟨⟨d1, d2⟩, hD⟩ := hD
    obtain ⟨d3, d4, d5⟩ := hD h5
    refine ⟨?_, fun hp => ?_⟩
    · show 0 ≤ M (M 11 i).toNat 4 ∧ M (M 11 i).toNat 4 ≤ 100
      rw [ea]
      exact ⟨d1, d3⟩
    · have hc := (hW.2.2.2.2.2.2 i h2 h3).1
      have hl : 0 < M 177 i := by
        rcases h4 with q | q
        · omega
        · exact q
      obtain ⟨k, hk, e⟩ := cnt_ex (M 184) i (M 168 20).toNat (by omega)
      obtain ⟨⟨f1, f2, f3, f4⟩, -, -, f5⟩ := hW.2.2.2.1.2 k (by omega) (by omega)
      rw [e] at f5
      have f6 := f5 h5
      rw [← f6]
      refine ⟨f3, f4, ?_⟩
      show M (M 11 i).toNat 4 = M (M 11 (M 183 k)).toNat 4 + 1
      rw [ea, f6]
      exact (d5 hp).2
theorem mdepth_Y {D : Int → Int} (hW : twR M) (hD : dpt M D) (hF0 : 0 ≤ F) (hF1 : F < M 168 5) (hFl : live M F) (hFk : M 171 F = 1) (k : K (some (ti (D F))) (sh, M, nx, zl)) : fm_Y (d + 1) 252 [.ref 168, .int (Int32.ofInt F)] (sh, M, nx, zl) K := by
  refine m252 [fx 168, ti F] ?_
  have hN := hW.1.1
  have qF := (hD.2 F hF0 hF1 hFl hFk).1
  have L : ∀ (N : Nat) (i x : Int), i < N → 0 ≤ i → i < M 168 5 → live M i → M 171 i = 1 → x + D i = D F → fm_X d kd252 4 [some (fx 168), some (ti F), some (ti x), some (ti i)] [] (sh, M, nx, zl) K := by
    intro N
    induction N with
    | zero => intro i x h1; omega
    | succ N ih =>
      intro i x h1 h2 h3 h4 h5 h6
      refine s252_4 d K _ _ _ ?_
      refine ⟨by omega, fun w => ?_, fun w => ?_⟩
      · have e0 := hD.1
        have e : x = D F := by
          rw [w] at h6
          omega
        rw [e]
        exact k
      · refine ⟨by omega, ?_⟩
        obtain ⟨q1, q2⟩ := hD.2 i h2 h3 h4 h5
        obtain ⟨q3, q4, q5⟩ := q2 (by omega)
        have hP := (hW.1.2 i h2 h3).2.1 (by omega)
        exact ih (M 178 i) (x + 1) (by omega) hP.1 (by omega) q3 q4 (by omega)
  exact L (F.toNat + 1) F 0 (by omega) hF0 hF1 hFl hFk (by omega)
end MORE
