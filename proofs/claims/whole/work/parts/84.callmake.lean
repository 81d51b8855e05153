/-! CALLS of both: make answers alike -/
theorem fz_congr {f g : Int → Int} {n N : Int} (h : ∀ j : Int, 0 ≤ j → j < n → f j % 256 = g j % 256) (q : fz f n N) : fz g n N := by
  obtain ⟨a1, a2, a3, a4⟩ := q
  refine ⟨a1, a2, by rw [← h N a1 a2]; exact a3, fun j j0 j1 => by rw [← h j j0 (by omega)]; exact a4 j j0 j1⟩
theorem mkG_congr {M M2 : FM} {f g : Int → Int} {n F kind N t : Int} (ho : okN M2 F = okN M F) (h : ∀ j : Int, 0 ≤ j → j < n → f j % 256 = g j % 256) (q : mkG M f n F kind N t) : mkG M2 g n F kind N t := by
  obtain ⟨a1, a2, ⟨a3, a4⟩, a5⟩ := q
  have hN : N ≤ n := by
    by_cases e : kind = 3
    · have := (a4 e).1.2.1
      omega
    · have := a3 e
      omega
  refine ⟨by rw [ho]; exact a1, a2, ⟨a3, fun e => ⟨fz_congr h (a4 e).1, (a4 e).2⟩⟩, nmF_congr (fun i i1 i2 => ?_) a5⟩
  rw [show (0 : Int) + i = i by omega]
  exact h i (by omega) (by omega)
section CALLMAKE
variable {V : FM → Prop} {L d : Nat} {xs : Nat → Int32}
theorem RR_make {k nx nx1 zl zl1 : Nat} {sh sh1 : Nat → Option Shp} {M MU M1 MA M2 : FM} {p F kind giv N t : Int} {af : Nat} (hV : keepsV V) (hR : RR V L xs k (sh, M, nx, zl)) (hG : mkG M (M 5) (M 4 1) F kind N t) (hg : -2147483648 ≤ giv ∧ giv ≤ 2147483647) (hFk : M 171 F = 1) (hp : isLB M p F (sl (M 5) 0 N.toNat)) (hnot : ¬ thr M p F (sl (M 5) 0 N.toNat)) (hRm : mkR M (M af 4) kind N t) (hFa : M 11 F = af) (hS : mkS sh sh1 nx nx1 zl zl1 af kind t) (hU : mkU M MU nx kind giv (M af 4 + 1) N t) (hI : insF (mk1 MU nx) M1 p af nx 5 nx1 N) (hM : mmF (utM (utC M1)) MA F kind giv N t t) (hJ : entF MA M2 p F (M 168 5) N) : RR V L xs (k + 1) (nrS sh1 nx1 N.toNat, M2, nx1 + 2, zl1 + 3 + N.toNat) := by
  obtain ⟨⟨⟨s1, s2⟩, ⟨s3, s4, s5⟩, s6⟩, ht, ho, hT, hv⟩ := hR
  dsimp only at s1 s2 s3 s4 s5 s6 ht ho hT hv
  obtain ⟨⟨o1, o2⟩, o3, o4⟩ := ho
  obtain ⟨⟨t1, t2⟩, t3, t4, t5, t6⟩ := ht
  obtain ⟨hF, hk, hsp, hnm⟩ := hG
  have hn := hnm.1
  have x265 : 265 ≤ nx := s3
  have hn3 : kind ≠ 3 → t = 0 := fun e => (hsp.1 e).2
  have htt : (0 ≤ t ∧ t ≤ 4096) ∧ N ≤ M 4 1 ∧ (1 ≤ t → N + 1 + t ≤ M 4 1) := by
    by_cases e : kind = 3
    · have := (hsp.2 e)
      have := this.1.2.1
      omega
    · have := hsp.1 e
      omega
  obtain ⟨aF, haF, hRF⟩ := (hT.2.2.1 F hF.1 hF.2.1).1 hF.2.2
  have eF : aF = af := by omega
  rw [eF] at hRF
  have sF : (af = 17 ∨ 265 ≤ af) ∧ af < nx := by
    obtain ⟨_, _, q, _⟩ := hRF
    refine ⟨q.2, ?_⟩
    by_cases e : nx ≤ af
    · have z := q.1
      unfold shp at z
      rw [fsh_hi (by omega), show sh af = none from s6 af e] at z
      cases z
    · omega
  obtain ⟨sF1, sF2⟩ := sF
  obtain ⟨⟨n1, n2, n3⟩, S2, S3, S4, S5⟩ := id hS
  obtain ⟨u1, u2, u3, u4, u5⟩ := hU
  obtain ⟨i1, i2, i3, i4, i5, i6⟩ := hI
  obtain ⟨⟨m1, m2, m3⟩, ⟨m171, m172, m173, m174, m175, m176, m177, m178, m179, m180⟩, ⟨m4, m5⟩, m6⟩ := hM
  obtain ⟨j1, j2, j3, j4, j5, j6⟩ := hJ
  obtain ⟨r1, r2, r3, r4, r5⟩ := hRm
  -- the class's cells before its entry
  have A8 := mk1_8 MU nx
  have A11 := mk1_11 MU nx
  have AO : ∀ c : Nat, c ≠ 8 → c ≠ 11 → c < nx → mk1 MU nx c = M c := fun c c1 c2 c3 => (mk1_o MU nx c1 c2).trans (u5 c c1 c3)
  have M1o : ∀ c : Nat, c ≠ 8 → c ≠ 11 → c ≠ 12 → c ≠ 13 → c ≠ 14 → (c < 265 ∧ c ≠ 17) → M1 c = M c := fun c q1 q2 q3 q4 q5 q6 => (i6 c q1 q3 q4 q5 (by omega) (by omega) (by omega) (by omega)).trans (AO c q1 q2 (by omega))
  have U : ∀ c : Nat, c ≠ 3 → c ≠ 4 → c ≠ 168 → utM (utC M1) c = M1 c := by
    intro c q1 q2 q3
    unfold utM utC
    rw [um_ne q3, um_ne q1, um_ne q2]
  have g : ∀ c : Nat, 169 ≤ c → c ≤ 187 → utM (utC M1) c = M c := fun c q1 q2 => (U c (by omega) (by omega) (by omega)).trans (M1o c (by omega) (by omega) (by omega) (by omega) (by omega) (by omega))
  have m168 := M1o 168 (by decide) (by decide) (by decide) (by decide) (by decide) (by decide)
  have v168 : ∀ i : Int, i ≠ 1 → i ≠ 2 → utM (utC M1) 168 i = M 168 i := by
    intro i q1 q2
    unfold utM
    rw [um_at, ur_ne q2, ur_ne q1]
    show M1 168 i = _
    rw [m168]
  have v5 := v168 5 (by omega) (by omega)
  have v17 := v168 17 (by omega) (by omega)
  have v19 := v168 19 (by omega) (by omega)
  have v20 := v168 20 (by omega) (by omega)
  have v26 := v168 26 (by omega) (by omega)
  rw [v5] at m1 m171 m172 m173 m174 m175 m176 m177 m178 m179 m180
  rw [v19] at m2 m4 m5 m179
  rw [v17] at m179
  rw [g 171 (by omega) (by omega)] at m171
  rw [g 172 (by omega) (by omega)] at m172
  rw [g 173 (by omega) (by omega)] at m173
  rw [g 174 (by omega) (by omega)] at m174
  rw [g 175 (by omega) (by omega)] at m175
  rw [g 176 (by omega) (by omega)] at m176
  rw [g 177 (by omega) (by omega)] at m177
  rw [g 178 (by omega) (by omega)] at m178
  rw [g 179 (by omega) (by omega)] at m179
  rw [g 180 (by omega) (by omega)] at m180
  rw [g 182 (by omega) (by omega)] at m4
  rw [g 169 (by omega) (by omega)] at m5
  have w20 : MA 168 20 = M 168 20 := (m3 20 (by omega) (by omega)).trans v20
  have w26 : MA 168 26 = M 168 26 := (m3 26 (by omega) (by omega)).trans v26
  have w17 : MA 168 17 = M 168 17 := (m3 17 (by omega) (by omega)).trans v17
  have eTT : sl (M 5) 0 (M 168 1).toNat = sl (M 169) 0 (M 168 1).toNat := t4
  have BY := sl_inj _ _ _ eTT
  have eN : sl (M 5) 0 N.toNat = sl (M 169) 0 N.toNat := sl_congr _ _ _ (fun i hi => BY i (by omega))
  have eX : sl (M 5) (N + 1) t.toNat = sl (M 169) (N + 1) t.toNat := sl_congr _ _ _ (fun i hi => by
    have z := BY ((N + 1).toNat + i) (by omega)
    rw [show (0 : Int) + (((N + 1).toNat + i : Nat) : Int) = N + 1 + (i : Int) by omega] at z
    exact z)
  -- both sides with the node, before the entry
  obtain ⟨Mx, hMx⟩ : ∃ Mx : FM, Mx = fun c => if 168 ≤ c ∧ c ≤ 187 then MA c else mk1 MU nx c := ⟨_, rfl⟩
  have XM : ∀ c : Nat, 168 ≤ c → c ≤ 187 → Mx c = MA c := fun c c1 c2 => by
    rw [hMx]
    exact if_pos ⟨c1, c2⟩
  have XC : ∀ c : Nat, (c < 168 ∨ 187 < c) → Mx c = mk1 MU nx c := fun c hc => by
    rw [hMx]
    exact if_neg (by omega)
  have X168 := XM 168 (by omega) (by omega)
  have a2 : M 8 2 = M 168 5 := hT.2.1.1
  have U82 : MU 8 2 = M 168 5 := (u2 2 (by omega)).trans a2
  have MAg : ∀ c : Nat, (c = 181 ∨ 183 ≤ c ∧ c ≤ 187 ∨ c = 169 ∨ c = 170) → MA c = M c := fun c hc => (m6 c (by omega) (by omega) (by omega)).trans (g c (by omega) (by omega))
  have hB : mkB M Mx F (M 168 5) kind giv t (sl (M 5) (N + 1) t.toNat) af nx := by
    refine ⟨⟨?_, ?_, ?_, ?_, ?_⟩, ⟨?_, ?_, ?_, ?_, ?_, ?_, ?_, ?_, ?_, ?_⟩, ⟨fun i i1 i2 => ?_, ?_⟩, ⟨?_, ?_, ?_, ?_, ?_⟩, fun i hi => ?_, fun e => ⟨?_, ?_⟩, fun c hc => ?_⟩
    · rw [X168]
      exact m1
    · rw [X168]
      exact w17
    · rw [X168]
      exact m2
    · rw [X168]
      exact w20
    · rw [X168]
      exact w26
    · rw [XM 171 (by omega) (by omega)]
      exact m171
    · rw [XM 172 (by omega) (by omega)]
      exact m172
    · rw [XM 173 (by omega) (by omega)]
      exact m173
    · rw [XM 174 (by omega) (by omega)]
      exact m174
    · rw [XM 175 (by omega) (by omega)]
      exact m175
    · rw [XM 176 (by omega) (by omega)]
      exact m176
    · rw [XM 177 (by omega) (by omega)]
      exact m177
    · rw [XM 178 (by omega) (by omega)]
      exact m178
    · rw [XM 179 (by omega) (by omega)]
      exact m179
    · rw [XM 180 (by omega) (by omega)]
      exact m180
    · rw [XM 182 (by omega) (by omega)]
      exact m4 i i1 i2
    · rw [XM 182 (by omega) (by omega), eX]
      exact m5
    · rw [XC 8 (by omega), A8, ur_at]
      omega
    · rw [XC 8 (by omega), A8, ur_ne (by omega)]
      exact u2 7 (by omega)
    · rw [XC 8 (by omega), A8, ur_ne (by omega)]
      exact u2 8 (by omega)
    · rw [XC 8 (by omega), A8, ur_ne (by omega)]
      exact u3
    · rw [XC 11 (by omega), A11, U82, u5 11 (by omega) (by omega)]
    · rw [XC nx (by omega), mk1_o MU nx (by omega) (by omega), u1 i hi, a2]
    · rw [XC (nx + 1) (by omega), mk1_o MU nx (by omega) (by omega)]
      exact (u4 e).1
    · rw [XC (nx + 2) (by omega), mk1_o MU nx (by omega) (by omega)]
      exact (u4 e).2
    · by_cases e : 168 ≤ c ∧ c ≤ 187
      · rw [XM c e.1 e.2]
        exact MAg c (by omega)
      · rw [XC c (by omega)]
        exact AO c (by omega) (by omega) (by omega)
  have hTX := treeX_mk hT hS s3 s6 hB rfl r1 hk hg htt.1 hn3 r4 hF hFk hFa r5 (sl_len _ _ _)
  -- the entry
  have C : ∀ c : Nat, c ≠ 3 → c ≠ 4 → c ≠ 168 → (c < 171 ∨ 180 < c) → c ≠ 182 → (c < 183 ∨ 187 < c) → M2 c = M1 c := fun c q1 q2 q3 q4 q5 q6 => ((j6 c q3 (by omega) (by omega) (by omega) (by omega) (by omega) (by omega)).trans (m6 c q3 q4 q5)).trans (U c q1 q2 q3)
  have b83 : Mx 183 = MA 183 := XM 183 (by omega) (by omega)
  have b84 : Mx 184 = MA 184 := XM 184 (by omega) (by omega)
  have b85 : Mx 185 = MA 185 := XM 185 (by omega) (by omega)
  have b86 : Mx 186 = MA 186 := XM 186 (by omega) (by omega)
  have b87 : Mx 187 = MA 187 := XM 187 (by omega) (by omega)
  have A87 : mk1 MU nx 8 7 = M 168 20 := by
    rw [A8, ur_ne (by omega), u2 7 (by omega)]
    exact hT.2.1.2.1
  have hIB : insB Mx M2 p F (M 168 5) N (sl (M 5) 0 N.toNat) af nx nx1 := by
    refine ⟨?_, ?_, ?_, ?_, ?_, ?_, ?_, ?_, ?_⟩
    · rw [C nx1 (by omega) (by omega) (by omega) (by omega) (by omega) (by omega), C (nx1 + 1) (by omega) (by omega) (by omega) (by omega) (by omega) (by omega)]
      refine ⟨i1.1, i1.2.trans ?_⟩
      rw [mk1_o MU nx (by omega) (by omega), u5 5 (by omega) (by omega)]
    · intro i q1 q2
      rw [X168, w20] at q2
      rw [C 12 (by omega) (by omega) (by omega) (by omega) (by omega) (by omega), C 13 (by omega) (by omega) (by omega) (by omega) (by omega) (by omega), C 14 (by omega) (by omega) (by omega) (by omega) (by omega) (by omega), XC 12 (by omega), XC 13 (by omega), XC 14 (by omega), b83, b84, b85, b86, X168]
      exact ⟨i2 i q1 (by omega), j1 i q1 (by omega)⟩
    · rw [C 8 (by omega) (by omega) (by omega) (by omega) (by omega) (by omega), XC 8 (by omega), i3]
      exact ⟨rfl, rfl, rfl, rfl⟩
    · rw [X168, j2]
      exact ⟨rfl, rfl, rfl, rfl, rfl⟩
    · rw [X168, b87]
      refine ⟨j3, j4.trans ?_⟩
      rw [MAg 169 (by omega)]
      exact eN.symm
    · rw [XM 177 (by omega) (by omega)]
      exact j5
    · rw [C af (by omega) (by omega) (by omega) (by omega) (by omega) (by omega), C nx (by omega) (by omega) (by omega) (by omega) (by omega) (by omega), XC af (by omega), XC nx (by omega)]
      exact ⟨i4, i5⟩
    · intro c hc
      by_cases e : 168 ≤ c ∧ c ≤ 187
      · rw [XM c e.1 e.2]
        exact j6 c (by omega) (by omega) (by omega) (by omega) (by omega) (by omega) (by omega)
      · rw [XC c (by omega), C c (by omega) (by omega) (by omega) (by omega) (by omega) (by omega)]
        exact i6 c (by omega) (by omega) (by omega) (by omega) (by omega) (by omega) (by omega) (by omega)
    · intro c hc q1 q2 q3 q4
      rw [XC c (by omega), C c (by omega) (by omega) (by omega) (by omega) (by omega) (by omega)]
      exact i6 c (by omega) (by omega) (by omega) (by omega) q1 q2 q3 q4
  have NMx := nm_mk hB
  have X20 : Mx 168 20 = M 168 20 := hB.1.2.2.2.1
  have X83 : Mx 183 = M 183 := b83.trans (MAg 183 (by omega))
  have hpx : isLB Mx p F (sl (M 5) 0 N.toNat) := by
    unfold isLB ltK
    simp only [X20, X83, NMx]
    exact hp
  have hnx : ¬ (p < Mx 168 20 ∧ Mx 183 p = F ∧ nmL Mx p = sl (M 5) 0 N.toNat) := by
    rw [X20, X83, NMx]
    exact hnot
  have hFx : F ≠ M 168 5 := by
    have := hF.2.1
    omega
  have hF0 := hF.1
  have hF1 := hF.2.1
  have X5 : Mx 168 5 = M 168 5 + 1 := hB.1.1
  have X171 := hB.2.1.1
  have X177 := hB.2.1.2.2.2.2.2.2.1
  have X178 := hB.2.1.2.2.2.2.2.2.2.1
  have X11 := hB.2.2.2.1.2.2.2.2
  have hn1 : fxN ≤ nx1 := by omega
  have hN5 := hT.1.1.1
  have X26 : Mx 168 26 = M 168 26 := hB.1.2.2.2.2
  have hTl : ((sl (M 5) 0 N.toNat).length : Int) = N := by
    rw [sl_len]
    omega
  have hTree := tree_insert hTX hn1 S2 hIB hpx hnx hF0 (by omega) (by rw [live_mk hB hFx]; exact hF.2.2) (by rw [X171, ur_ne hFx]; exact hFk) (by rw [X11, ur_ne hFx]; exact hFa) (by rw [X11, ur_at]) (by omega) (by omega) (fun e => hFx e.symm) (fun _ => by rw [X177, X178, ur_at, ur_at]; exact ⟨rfl, rfl⟩) hn hTl (by omega) (by omega)
  have C3 : M2 3 = utC M1 3 := by
    rw [j6 3 (by decide) (by decide) (by decide) (by decide) (by decide) (by decide) (by decide), m6 3 (by decide) (by decide) (by decide)]
    rfl
  have m13 := M1o 3 (by decide) (by decide) (by decide) (by decide) (by decide) (by decide)
  have C4 : M2 4 1 = 0 := by
    rw [j6 4 (by decide) (by decide) (by decide) (by decide) (by decide) (by decide) (by decide), m6 4 (by decide) (by decide) (by decide)]
    rfl
  have K1 : M2 168 1 = 0 := by
    rw [j2, ur_ne (by omega), ur_ne (by omega), m3 1 (by omega) (by omega)]
    rfl
  have K2 : M2 168 2 = 0 := by
    rw [j2, ur_ne (by omega), ur_ne (by omega), m3 2 (by omega) (by omega)]
    rfl
  have w168 : ∀ i : Int, i ≠ 1 → i ≠ 2 → i ≠ 5 → i ≠ 19 → i ≠ 20 → i ≠ 26 → M2 168 i = M 168 i := by
    intro i q1 q2 q3 q4 q5 q6
    rw [j2, ur_ne q6, ur_ne q5, m3 i q3 q4]
    exact v168 i q1 q2
  have CC : ∀ c : Nat, c < 265 → c ≠ 17 → c ≠ 3 → c ≠ 4 → (c < 8 ∨ 14 < c) → (c < 168 ∨ 187 < c) → M2 c = M c := fun c q1 q2 q3 q4 q5 q6 => (C c q3 q4 (by omega) (by omega) (by omega) (by omega)).trans (M1o c (by omega) (by omega) (by omega) (by omega) (by omega) ⟨q1, q2⟩)
  refine ⟨⟨⟨?_, ?_⟩, ⟨?_, ?_, ?_⟩, ?_⟩, ?_, ?_, hTree, ?_⟩
  · show nrS sh1 nx1 N.toNat 0 = _
    unfold nrS shN
    rw [if_neg (by omega), if_neg (by omega), S3 0 (by omega)]
    exact s1
  · show ∀ j : Nat, Int32.ofInt (M2 0 j) = xs j
    rw [CC 0 (by decide) (by decide) (by decide) (by decide) (by decide) (by decide)]
    exact s2
  · show fxN ≤ nx1 + 2
    omega
  · show nx1 + 2 ≤ 265 + 5 * (k + 1)
    omega
  · show zl1 + 3 + N.toNat ≤ 2656208 + 5000 * (k + 1)
    omega
  · intro c hc
    have hc2 : nx1 + 2 ≤ c := hc
    show nrS sh1 nx1 N.toNat c = none
    unfold nrS shN
    rw [if_neg (by omega), if_neg (by omega)]
    exact S2 c (by omega)
  · refine ⟨?_, ?_, ?_, ?_, ?_⟩
    · show 0 ≤ M2 168 1 ∧ M2 168 1 ≤ 16384
      omega
    · show M2 4 1 = M2 168 1
      omega
    · show sl (M2 5) 0 (M2 168 1).toNat = sl (M2 169) 0 (M2 168 1).toNat
      rw [K1]
      rfl
    · show M2 3 5 % 2 = M2 168 2 % 2
      rw [C3, K2]
      rfl
    · show M2 168 2 % 2 ≠ 0 → 20 ≤ M2 168 1
      rw [K2]
      exact fun q => absurd rfl q
  · have w4 := w168 4 (by omega) (by omega) (by omega) (by omega) (by omega) (by omega)
    refine ⟨?_, ?_, ?_⟩
    · show 0 ≤ M2 168 4 ∧ M2 168 4 ≤ 16384
      rw [w4]
      exact ⟨o1, o2⟩
    · show M2 6 1 = M2 168 4
      rw [w4, CC 6 (by omega) (by omega) (by omega) (by omega) (by omega) (by omega)]
      exact o3
    · show sl (M2 7) 0 (M2 168 4).toNat = sl (M2 170) 0 (M2 168 4).toNat
      have e170 : M2 170 = M 170 := (j6 170 (by decide) (by decide) (by decide) (by decide) (by decide) (by decide) (by decide)).trans (MAg 170 (by omega))
      rw [w4, CC 7 (by omega) (by omega) (by omega) (by omega) (by omega) (by omega), e170]
      exact o4
  · refine hV M M2 hv ⟨fun c hc => CC c (by omega) (by omega) (by omega) (by omega) (by omega) (by omega), fun i hi => w168 i (by omega) (by omega) (by omega) (by omega) (by omega) (by omega), ?_, ?_⟩
    · rw [C3]
      show M1 3 6 = _
      rw [m13]
    · rw [C3]
      show M1 3 7 = _
      rw [m13]
end CALLMAKE
