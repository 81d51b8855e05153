/-! THE TREE WITH AN ENTRY MORE: the class's cells hold the same -/
section TREEINS2
variable {sh : Nat → Option Shp} {M M2 : FM} {p F x n : Int} {T : List Int} {af ac r nx : Nat}
theorem shp_fresh (hx : fxN ≤ nx) (hfr : ∀ c, nx ≤ c → sh c = none) {c : Nat} {s : Shp} (h : shp sh c = some s) : c ≠ nx ∧ c ≠ nx + 1 := by
  have q : ∀ c, nx ≤ c → shp sh c = none := by
    intro c hc
    unfold shp
    rw [fsh_hi (by omega)]
    exact hfr c hc
  constructor
  · intro e
    rw [e, q nx (Nat.le_refl _)] at h
    cases h
  · intro e
    rw [e, q (nx + 1) (by omega)] at h
    cases h
/-- a row made by a call stays -/
theorem rowD_keep {sh2 : Nat → Option Shp} {q b : Nat} {L : List Int} (h : rowD sh M q b L) (h1 : shp sh2 q = shp sh q) (h2 : shp sh2 b = shp sh b) (h3 : M2 q = M q) (h4 : M2 b = M b) : rowD sh2 M2 q b L := by
  obtain ⟨⟨a1, a2⟩, a3, a4, a5, a6⟩ := h
  exact ⟨⟨h1.trans a1, h2.trans a2⟩, a3, a4, by rw [h3]; exact a5, by rw [h4]; exact a6⟩
theorem tree_insert (hX : treeX sh M x) (hx : fxN ≤ nx) (hfr : ∀ c, nx ≤ c → sh c = none) (hB : insB M M2 p F x n T af ac nx) (hp : isLB M p F T) (hnot : ¬ (p < M 168 20 ∧ M 183 p = F ∧ nmL M p = T)) (hF0 : 0 ≤ F) (hF1 : F < M 168 5) (hFl : live M F) (hFk : M 171 F = 1) (hFa : M 11 F = af) (hxa : M 11 x = ac) (hx0 : 0 < x) (hx1 : x < M 168 5) (hxF : x ≠ F) (hxk : M 171 x = 1 → M 177 x = 0 ∧ M 178 x = F) (hn : 1 ≤ n ∧ n ≤ 256) (hTl : (T.length : Int) = n) (hE : M 168 20 < 2000) (hA : M 168 26 + n ≤ 32768) : treeR (nrS sh nx n.toNat) M2 := by
  have hW := hX.1
  have hB0 := hB
  have hW2 := twR_ins hX hB0 hp hnot hF0 hF1 hFl hFk hx0 hx1 hxk hn hTl hE hA
  obtain ⟨b1, b2, ⟨b31, b32, b33, b34⟩, ⟨b41, b42, b43, b44, b45⟩, b5, b6, ⟨b71, b72⟩, b8, b9⟩ := hB
  have hE0 := hW.2.2.2.1.1
  have hC := hW.2.2.2.2.2.2
  have hxC := (hC x (by omega) hx1).1
  have hx177 : 0 ≤ M 177 x := by have := (cnt_nn (M 184) x (M 168 20).toNat).1; omega
  have LV := live_ins hB0 hx177
  have k9 := b8 9 (by omega)
  have k10 := b8 10 (by omega)
  have k11 := b8 11 (by omega)
  have k171 := b8 171 (by omega)
  have k172 := b8 172 (by omega)
  have k173 := b8 173 (by omega)
  have k174 := b8 174 (by omega)
  have k175 := b8 175 (by omega)
  have k176 := b8 176 (by omega)
  have k178 := b8 178 (by omega)
  have k179 := b8 179 (by omega)
  have k180 := b8 180 (by omega)
  have k181 := b8 181 (by omega)
  have k182 := b8 182 (by omega)
  obtain ⟨-, hA2, hN, hEn, hFx⟩ := hX
  have rF := (hN F hF0 hF1).1 (Or.inl hFl)
  have rX := (hN x (by omega) hx1).1 (Or.inr rfl)
  -- node cells: what stays
  have ND : ∀ (i : Int) (a : Nat), 0 ≤ i → i < M 168 5 → M 11 i = a → ndR sh M i a → (shp (nrS sh nx n.toNat) a = shp sh a) ∧ (a = 17 ∨ 265 ≤ a) ∧ (∀ j : Int, j ≠ 9 → j ≠ 10 → M2 a j = M a j) ∧ M2 a 9 = (if i = x then M a 9 + 1 else M a 9) ∧ M2 a 10 = (if i = F then M a 10 + 1 else M a 10) := by
    intro i a i0 i1 ha hR
    obtain ⟨h, t, hS, hEi, -⟩ := hR
    have hfr2 := shp_fresh hx hfr hS.1
    refine ⟨nrS_o hfr2.1 hfr2.2, hS.2, ?_⟩
    have inj : ∀ (j : Int) (b : Nat), 0 ≤ j → j < M 168 5 → M 11 j = b → lvX M x j → i ≠ j → a ≠ b := by
      intro j b j0 j1 hb hl hij e
      obtain ⟨b', hb', h', t', -, hE', -⟩ := (hN j j0 j1).1 hl
      have eb : b' = b := by omega
      rw [eb, ← e] at hE'
      exact hij (hEi.1.symm.trans hE'.1)
    by_cases eF : i = F
    · have ea : a = af := by rw [eF] at ha; omega
      rw [if_neg (by rw [eF]; exact fun q => hxF q.symm), if_pos eF, ea, b71]
      exact ⟨fun j j1 j2 => ur_ne j2, ur_ne (by omega), ur_at _ _ _⟩
    · rw [if_neg eF]
      by_cases eX : i = x
      · have ea : a = ac := by rw [eX] at ha; omega
        rw [if_pos eX, ea, b72]
        exact ⟨fun j j1 j2 => ur_ne j1, ur_at _ _ _, ur_ne (by omega)⟩
      · rw [if_neg eX]
        have n1 := inj F af hF0 hF1 hFa (Or.inl hFl) eF
        have n2 := inj x ac (by omega) hx1 hxa (Or.inr rfl) eX
        rw [b9 a hS.2 n1 n2 hfr2.1 hfr2.2]
        exact ⟨fun j _ _ => rfl, rfl, rfl⟩
  have RD : ∀ (q b : Nat) (L : List Int), rowD sh M q b L → rowD (nrS sh nx n.toNat) M2 q b L := by
    intro q b L h
    have f1 := shp_fresh hx hfr h.1.1
    have f2 := shp_fresh hx hfr h.1.2
    obtain ⟨aF, haF, hF9, tF9, hSF, -⟩ := rF
    obtain ⟨aX, haX, hX9, tX9, hSX, -⟩ := rX
    have eF : aF = af := by omega
    have eX : aX = ac := by omega
    rw [eF] at hSF
    rw [eX] at hSX
    have d1 : ∀ c (s : Shp), shp sh c = some s → (∀ fl, s ≠ .inr (3, fl)) → c ≠ af ∧ c ≠ ac := by
      intro c s hs hh
      constructor
      · intro e
        rw [e, hSF.1] at hs
        exact hh _ (Option.some.inj hs).symm
      · intro e
        rw [e, hSX.1] at hs
        exact hh _ (Option.some.inj hs).symm
    have g1 := d1 q _ h.1.1 (fun fl e => by cases e)
    have g2 := d1 b _ h.1.2 (fun fl e => by cases e)
    exact rowD_keep h (nrS_o f1.1 f1.2) (nrS_o f2.1 f2.2) (b9 q (Or.inr h.2.1.1) g1.1 g1.2 f1.1 f1.2) (b9 b (Or.inr h.2.1.2.1) g2.1 g2.2 f2.1 f2.2)
  have OLD := nm_old hW hB0 hp.1
  have NEW := nm_new hB0 hp.1
  refine ⟨hW2, ?_, ?_, ?_, ?_⟩
  · obtain ⟨c1, c2, c3, c4, c5⟩ := hA2
    refine ⟨by omega, by omega, by omega, by omega, ?_⟩
    rw [k9]
    omega
  · intro i i0 i1
    rw [b41] at i1
    rw [LV i, k11]
    refine ⟨fun hl => ?_, (hN i i0 i1).2⟩
    obtain ⟨a, ha, hR⟩ := (hN i i0 i1).1 hl
    refine ⟨a, ha, ?_⟩
    obtain ⟨n1, n2, n3, n4, n5⟩ := ND i a i0 i1 ha hR
    obtain ⟨h, t, hS, hEi, hFi, hLi, hDi⟩ := hR
    refine ⟨h, t, ⟨n1.trans hS.1, hS.2⟩, ?_, ?_, ?_, ?_⟩
    · obtain ⟨e0, e1, e2, e5, e6, e7, e8, e9, e10⟩ := hEi
      unfold ndE
      rw [k171, k172, k173, k174, k175, k176, b6, b44, n3 0 (by omega) (by omega), n3 1 (by omega) (by omega), n3 2 (by omega) (by omega), n3 5 (by omega) (by omega), n3 6 (by omega) (by omega), n3 7 (by omega) (by omega), n3 8 (by omega) (by omega), n4, n5]
      refine ⟨e0, e1, e2, e5, e6, e7, e8, ?_, ?_⟩
      · by_cases e : i = x
        · rw [if_pos e, e, ur_at, ← e]
          omega
        · rw [if_neg e, ur_ne e]
          exact e9
      · have hp1 := hp.1
        have q2 : cnt (M2 183) (M 168 20 + 1).toNat i = cnt (ins (M 183) p F) ((M 168 20).toNat + 1) i := by
          rw [show (M 168 20 + 1).toNat = (M 168 20).toNat + 1 by omega]
          exact cnt_congr i _ (fun k hk => (b2 k (by omega) (by omega)).2.1)
        have q3 := cnt_ins (M 183) p.toNat F i ((M 168 20).toNat + 1)
        rw [show ((p.toNat : Nat) : Int) = p by omega, if_neg (by omega), show (M 168 20).toNat + 1 - 1 = (M 168 20).toNat by omega] at q3
        rw [q2, q3]
        by_cases e : i = F
        · rw [if_pos e, if_pos e.symm]
          omega
        · rw [if_neg e, if_neg (fun q => e q.symm)]
          omega
    · unfold ndF
      rw [k9, k10, k171, k179, k180, k181, n3 11 (by omega) (by omega), n3 12 (by omega) (by omega)]
      exact hFi
    · unfold ndL
      rw [k171, k179, k180, k182]
      refine ⟨fun h3 => ?_, hLi.2⟩
      obtain ⟨q, b, e1, e2⟩ := hLi.1 h3
      exact ⟨q, b, e1, RD q b _ e2⟩
    · unfold ndD
      rw [k171, k11, k178, n3 4 (by omega) (by omega)]
      refine ⟨hDi.1, fun h1 => ⟨(hDi.2 h1).1, (hDi.2 h1).2.1, fun hi => ?_⟩⟩
      obtain ⟨d1, d2⟩ := (hDi.2 h1).2.2 hi
      refine ⟨d1, ?_⟩
      -- the parent's cell
      have hP := (hW.1.2 i i0 i1).2.1 hi
      have hpl : lvX M x (M 178 i) := by
        rcases hl with hl | hl
        · have hl2 : 0 < M 177 i := by
            rcases hl with q | q
            · omega
            · exact q
          obtain ⟨k, hk, e⟩ := cnt_ex (M 184) i (M 168 20).toNat (by have := (hC i i0 i1).1; omega)
          obtain ⟨⟨f1, f2, f3, f4⟩, -, -, f5⟩ := hW.2.2.2.1.2 k (by omega) (by omega)
          rw [e] at f5
          rw [← f5 h1]
          exact Or.inl f3
        · rw [hl] at h1 ⊢
          rw [(hxk h1).2]
          exact Or.inl hFl
      obtain ⟨a2, ha2, hR2⟩ := (hN (M 178 i) hP.1 (by omega)).1 hpl
      have ea2 : (M 11 (M 178 i)).toNat = a2 := by omega
      obtain ⟨-, -, n32, -, -⟩ := ND (M 178 i) a2 hP.1 (by omega) ha2 hR2
      rw [ea2] at d2 ⊢
      rw [n32 4 (by omega) (by omega)]
      exact d2
  · intro k k0 k1
    rw [b44] at k1
    rw [k11]
    by_cases e : k = p
    · subst e
      obtain ⟨m1, m2, m3, m4, m5, m6, m7, m8⟩ := NEW
      rw [m1, m2, m5, m6, m7, hFa, hxa]
      refine ⟨rfl, rfl, nx, nx + 1, m8, ⟨nrS_r hx, ?_⟩, ⟨hx, by have : fxN = 265 := rfl; omega, by omega⟩, by omega, by rw [b1.1]; omega, ?_⟩
      · rw [show T.length = n.toNat by omega]
        exact nrS_b hx
      · rw [show T.length = n.toNat by omega]
        exact b1.2
    · obtain ⟨⟨o1, o2⟩, o3, o4, -, -, o7, o8, o9, o10⟩ := OLD k k0 (by omega) e
      rw [o3, o4, o7, o8, o9, o10]
      obtain ⟨c1, c2, q, b, c3, c4⟩ := hEn (old p k) o1 o2
      exact ⟨c1, c2, q, b, c3, RD q b _ c4⟩
  · intro i j i0 i1 j0 j1 ij hi hj e1 e2
    rw [b41] at i1 j1
    rw [LV] at hi hj
    rw [k171] at e1 e2
    rw [k11]
    obtain ⟨a, ha, hR⟩ := (hN i i0 i1).1 hi
    obtain ⟨b, hb, hR2⟩ := (hN j j0 j1).1 hj
    have ea : (M 11 i).toNat = a := by omega
    have eb : (M 11 j).toNat = b := by omega
    have q := hFx i j i0 i1 j0 j1 ij hi hj e1 e2
    rw [ea, eb] at q ⊢
    obtain ⟨-, -, n3, -, -⟩ := ND i a i0 i1 ha hR
    obtain ⟨-, -, n32, -, -⟩ := ND j b j0 j1 hb hR2
    rw [n3 11 (by omega) (by omega), n3 12 (by omega) (by omega), n32 11 (by omega) (by omega), n32 12 (by omega) (by omega)]
    exact q
end TREEINS2
