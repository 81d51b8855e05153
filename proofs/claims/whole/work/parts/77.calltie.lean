/-! CALLS of both: tie answers alike -/
/-- what is said of the reference's cells alone -/
theorem mod_same {M M2 : FM} (h : ∀ c : Nat, 168 ≤ c → c ≤ 187 → M2 c = M c) : (∀ i, okN M2 i = okN M i) ∧ (∀ p F T, isLB M2 p F T = isLB M p F T) ∧ (∀ p F T, thr M2 p F T = thr M p F T) ∧ (twR M → twR M2) := by
  have k168 := h 168 (by omega) (by omega)
  have k171 := h 171 (by omega) (by omega)
  have k172 := h 172 (by omega) (by omega)
  have k173 := h 173 (by omega) (by omega)
  have k174 := h 174 (by omega) (by omega)
  have k175 := h 175 (by omega) (by omega)
  have k176 := h 176 (by omega) (by omega)
  have k177 := h 177 (by omega) (by omega)
  have k178 := h 178 (by omega) (by omega)
  have k179 := h 179 (by omega) (by omega)
  have k180 := h 180 (by omega) (by omega)
  have k183 := h 183 (by omega) (by omega)
  have k184 := h 184 (by omega) (by omega)
  have k185 := h 185 (by omega) (by omega)
  have k186 := h 186 (by omega) (by omega)
  have k187 := h 187 (by omega) (by omega)
  have LV : ∀ i, live M2 i = live M i := fun i => by unfold live; rw [k177]
  have NM : ∀ i, nmL M2 i = nmL M i := fun i => by unfold nmL; rw [k185, k186, k187]
  have LT : ∀ k F T, ltK M2 k F T = ltK M k F T := fun k F T => by unfold ltK; rw [k183, NM]
  refine ⟨fun i => by unfold okN; rw [k168, LV], fun p F T => by unfold isLB; simp only [k168, LT], fun p F T => by unfold thr; rw [k168, k183, NM], fun hW => ?_⟩
  obtain ⟨w1, w2, w3, w4, w5, w6, w7⟩ := hW
  refine ⟨?_, ?_, ?_, ?_, ?_, ?_, ?_⟩
  · unfold twN
    rw [k168, k171, k172, k173, k174, k175, k176, k178]
    exact w1
  · unfold twB
    rw [k168, k171, k179, k180]
    exact w2
  · unfold twD
    rw [k168, k171, k179, k180]
    exact w3
  · unfold twE
    simp only [k168, k171, k178, k183, k184, k185, k186, LV]
    exact w4
  · unfold twO
    simp only [k168, k183, NM, LT]
    exact w5
  · unfold twS
    rw [k168, k185, k186]
    exact w6
  · unfold twC
    rw [k168, k171, k177, k184]
    exact w7
section CALLTIE
variable {V : FM → Prop} {L d : Nat} {xs : Nat → Int32}
/-- both tapes used up, nothing else -/
theorem RR_used {k nx zl : Nat} {sh : Nat → Option Shp} {M : FM} (hV : keepsV V) (hR : RR V L xs k (sh, M, nx, zl)) : RR V L xs (k + 1) (sh, utM (utC M), nx, zl) := by
  have hR0 := hR
  obtain ⟨hBase, ht, ⟨⟨o1, o2⟩, o3, o4⟩, hT, hv⟩ := hR
  refine RR_to hV hR0 ?_ ?_ ⟨rfl, rfl⟩ ?_ ⟨⟨o1, o2⟩, o3, o4⟩
  · intro c q1 q2 q3 q4 q5 q6 q7 q8
    unfold utM utC
    rw [um_ne q6, um_ne q1, um_ne q2]
  · intro i q1 q2 q3
    unfold utM
    rw [um_at, ur_ne q2, ur_ne q1]
    rfl
  · refine ⟨?_, rfl, rfl, rfl, fun q => absurd rfl q⟩
    show (0 : Int) ≤ 0 ∧ (0 : Int) ≤ 16384
    omega
theorem tape_nm {M : FM} (ht : tapeR M) : nmF (M 5) 0 (M 4 1) ↔ nmF (M 169) 0 (M 168 1) := by
  obtain ⟨⟨t1, t2⟩, t3, t4, -, -⟩ := ht
  have q := sl_inj _ _ _ t4
  rw [t3]
  constructor
  · intro h
    refine nmF_congr (fun i h1 h2 => ?_) h
    have z := q i.toNat (by omega)
    rw [show ((i.toNat : Nat) : Int) = i by omega] at z
    exact z
  · intro h
    refine nmF_congr (fun i h1 h2 => ?_) h
    have z := q i.toNat (by omega)
    rw [show ((i.toNat : Nat) : Int) = i by omega] at z
    exact z.symm
/-- an entry more, put in by both -/
theorem RR_ins {k nx zl : Nat} {sh : Nat → Option Shp} {M M1 M2 : FM} {p F x : Int} {af ac : Nat} (hV : keepsV V) (hR : RR V L xs k (sh, M, nx, zl)) (hF : okN M F) (hx : okN M x) (hxk : M 171 x ≠ 1) (hFk : M 171 F = 1) (hnm : nmF (M 5) 0 (M 4 1)) (hp : isLB M p F (sl (M 5) 0 (M 4 1).toNat)) (hnot : ¬ thr M p F (sl (M 5) 0 (M 4 1).toNat)) (hE : M 168 20 < 2000) (hA : M 168 26 + M 4 1 ≤ 32768) (hFa : M 11 F = af) (hxa : M 11 x = ac) (hI : insF M M1 p af ac 5 nx (M 4 1)) (hJ : entF (utM (utC M1)) M2 p F x (M 4 1)) : RR V L xs (k + 1) (nrS sh nx (M 4 1).toNat, M2, nx + 2, zl + 3 + (M 4 1).toNat) := by
  obtain ⟨⟨⟨s1, s2⟩, ⟨s3, s4, s5⟩, s6⟩, ht, ho, hT, hv⟩ := hR
  dsimp only at s1 s2 s3 s4 s5 s6 ht ho hT hv
  obtain ⟨⟨o1, o2⟩, o3, o4⟩ := ho
  have ht2 := ht
  obtain ⟨⟨t1, t2⟩, t3, t4, t5, t6⟩ := ht
  have hn := hnm.1
  have hx265 : 265 ≤ nx := s3
  -- the cells of nodes
  obtain ⟨aF, haF, hRF⟩ := (hT.2.2.1 F hF.1 hF.2.1).1 hF.2.2
  obtain ⟨aX, haX, hRX⟩ := (hT.2.2.1 x hx.1 hx.2.1).1 hx.2.2
  have eF : aF = af := by omega
  have eX : aX = ac := by omega
  rw [eF] at hRF
  rw [eX] at hRX
  have sF : af = 17 ∨ 265 ≤ af := by obtain ⟨_, _, q, _⟩ := hRF; exact q.2
  have sX : ac = 17 ∨ 265 ≤ ac := by obtain ⟨_, _, q, _⟩ := hRX; exact q.2
  obtain ⟨i1, i2, i3, i4, i5, i6⟩ := hI
  obtain ⟨j1, j2, j3, j4, j5, j6⟩ := hJ
  have U : ∀ c : Nat, c ≠ 3 → c ≠ 4 → c ≠ 168 → utM (utC M1) c = M1 c := by
    intro c q1 q2 q3
    unfold utM utC
    rw [um_ne q3, um_ne q1, um_ne q2]
  have M1o : ∀ c : Nat, c ≠ 8 → c ≠ 12 → c ≠ 13 → c ≠ 14 → (c < 265 ∧ c ≠ 17) → M1 c = M c := fun c q1 q2 q3 q4 q5 => i6 c q1 q2 q3 q4 (by omega) (by omega) (by omega) (by omega)
  have m168 := M1o 168 (by decide) (by decide) (by decide) (by decide) (by decide)
  have v168 : ∀ i : Int, i ≠ 1 → i ≠ 2 → utM (utC M1) 168 i = M 168 i := by
    intro i q1 q2
    unfold utM
    rw [um_at, ur_ne q2, ur_ne q1]
    show M1 168 i = _
    rw [m168]
  -- cells of M2
  have C : ∀ c : Nat, c ≠ 3 → c ≠ 4 → c ≠ 168 → c ≠ 177 → c ≠ 183 → c ≠ 184 → c ≠ 185 → c ≠ 186 → c ≠ 187 → M2 c = M1 c := fun c q1 q2 q3 q4 q5 q6 q7 q8 q9 => (j6 c q3 q4 q5 q6 q7 q8 q9).trans (U c q1 q2 q3)
  have w168 : ∀ i : Int, i ≠ 1 → i ≠ 2 → i ≠ 20 → i ≠ 26 → M2 168 i = M 168 i := by
    intro i q1 q2 q3 q4
    rw [j2, ur_ne q4, ur_ne q3]
    exact v168 i q1 q2
  have w20 : M2 168 20 = M 168 20 + 1 := by
    rw [j2, ur_ne (by omega), ur_at, v168 20 (by omega) (by omega)]
  have w26 : M2 168 26 = M 168 26 + M 4 1 := by
    rw [j2, ur_at, v168 26 (by omega) (by omega)]
  have e20 := v168 20 (by omega) (by omega)
  have e26 := v168 26 (by omega) (by omega)
  have g : ∀ c : Nat, 177 ≤ c → c ≤ 187 → utM (utC M1) c = M c := fun c q1 q2 => (U c (by omega) (by omega) (by omega)).trans (M1o c (by omega) (by omega) (by omega) (by omega) (by omega))
  have g169 : utM (utC M1) 169 = M 169 := (U 169 (by decide) (by decide) (by decide)).trans (M1o 169 (by decide) (by decide) (by decide) (by decide) (by decide))
  have a87 : M 8 7 = M 168 20 := hT.2.1.2.1
  have hB : insB M M2 p F x (M 4 1) (sl (M 5) 0 (M 4 1).toNat) af ac nx := by
    refine ⟨?_, ?_, ?_, ?_, ?_, ?_, ?_, ?_, ?_⟩
    · rw [C nx (by omega) (by omega) (by omega) (by omega) (by omega) (by omega) (by omega) (by omega) (by omega), C (nx + 1) (by omega) (by omega) (by omega) (by omega) (by omega) (by omega) (by omega) (by omega) (by omega)]
      exact i1
    · intro i q1 q2
      rw [C 12 (by decide) (by decide) (by decide) (by decide) (by decide) (by decide) (by decide) (by decide) (by decide), C 13 (by decide) (by decide) (by decide) (by decide) (by decide) (by decide) (by decide) (by decide) (by decide), C 14 (by decide) (by decide) (by decide) (by decide) (by decide) (by decide) (by decide) (by decide) (by decide)]
      have z := j1 i q1 (by rw [e20]; exact q2)
      rw [g 183 (by omega) (by omega), g 184 (by omega) (by omega), g 185 (by omega) (by omega), g 186 (by omega) (by omega), e26] at z
      exact ⟨i2 i q1 (by omega), z⟩
    · rw [C 8 (by decide) (by decide) (by decide) (by decide) (by decide) (by decide) (by decide) (by decide) (by decide), i3]
      exact ⟨rfl, rfl, rfl, rfl⟩
    · exact ⟨w168 5 (by omega) (by omega) (by omega) (by omega), w168 17 (by omega) (by omega) (by omega) (by omega), w168 19 (by omega) (by omega) (by omega) (by omega), w20, w26⟩
    · rw [e26] at j3 j4
      rw [g 187 (by omega) (by omega)] at j3
      refine ⟨j3, j4.trans ?_⟩
      rw [g169, t3]
      exact t4.symm
    · rw [j5, g 177 (by omega) (by omega)]
    · rw [C af (by omega) (by omega) (by omega) (by omega) (by omega) (by omega) (by omega) (by omega) (by omega), C ac (by omega) (by omega) (by omega) (by omega) (by omega) (by omega) (by omega) (by omega) (by omega)]
      exact ⟨i4, i5⟩
    · intro c hc
      rw [C c (by omega) (by omega) (by omega) (by omega) (by omega) (by omega) (by omega) (by omega) (by omega)]
      exact M1o c (by omega) (by omega) (by omega) (by omega) (by omega)
    · intro c hc q1 q2 q3 q4
      rw [C c (by omega) (by omega) (by omega) (by omega) (by omega) (by omega) (by omega) (by omega) (by omega)]
      exact i6 c (by omega) (by omega) (by omega) (by omega) q1 q2 q3 q4
  have hx0 : x ≠ 0 := by
    intro e
    rw [e] at hxk
    exact hxk hT.1.1.1.2.2
  have hTl : ((sl (M 5) 0 (M 4 1).toNat).length : Int) = M 4 1 := by
    rw [sl_len]
    omega
  have hTree := tree_insert (treeX_of hT hx.2.2) s3 s6 hB hp hnot hF.1 hF.2.1 hF.2.2 hFk hFa hxa (by have := hx.1; omega) hx.2.1 (fun e => hxk (by rw [e]; exact hFk)) (fun e => absurd e hxk) hn hTl hE hA
  have C3 : M2 3 = utC M1 3 := by
    rw [j6 3 (by decide) (by decide) (by decide) (by decide) (by decide) (by decide) (by decide)]
    rfl
  have m3 := M1o 3 (by decide) (by decide) (by decide) (by decide) (by decide)
  have C4 : M2 4 1 = 0 := by
    rw [j6 4 (by decide) (by decide) (by decide) (by decide) (by decide) (by decide) (by decide)]
    rfl
  have K1 : M2 168 1 = 0 := by
    rw [j2]
    rfl
  have K2 : M2 168 2 = 0 := by
    rw [j2]
    rfl
  have C0 : M2 0 = M 0 := (C 0 (by decide) (by decide) (by decide) (by decide) (by decide) (by decide) (by decide) (by decide) (by decide)).trans (M1o 0 (by decide) (by decide) (by decide) (by decide) (by decide))
  have CC : ∀ c : Nat, c < 265 → c ≠ 17 → c ≠ 3 → c ≠ 4 → (c < 8 ∨ 14 < c) → (c < 168 ∨ 187 < c) → M2 c = M c := fun c q1 q2 q3 q4 q5 q6 => (C c q3 q4 (by omega) (by omega) (by omega) (by omega) (by omega) (by omega) (by omega)).trans (M1o c (by omega) (by omega) (by omega) (by omega) ⟨q1, q2⟩)
  refine ⟨⟨⟨?_, ?_⟩, ⟨?_, ?_, ?_⟩, ?_⟩, ?_, ?_, hTree, ?_⟩
  · show nrS sh nx (M 4 1).toNat 0 = _
    unfold nrS shN
    rw [if_neg (by omega), if_neg (by omega)]
    exact s1
  · show ∀ j : Nat, Int32.ofInt (M2 0 j) = xs j
    rw [C0]
    exact s2
  · show fxN ≤ nx + 2
    omega
  · show nx + 2 ≤ 265 + 5 * (k + 1)
    omega
  · show zl + 3 + (M 4 1).toNat ≤ 2656208 + 5000 * (k + 1)
    omega
  · intro c hc
    have hc2 : nx + 2 ≤ c := hc
    show nrS sh nx (M 4 1).toNat c = none
    unfold nrS shN
    rw [if_neg (by omega), if_neg (by omega)]
    exact s6 c (by omega)
  · refine ⟨?_, ?_, ?_, ?_, ?_⟩
    · show 0 ≤ M2 168 1 ∧ M2 168 1 ≤ 16384
      omega
    · show M2 4 1 = M2 168 1
      omega
    · show sl (M2 5) 0 (M2 168 1).toNat = sl (M2 169) 0 (M2 168 1).toNat
      rw [K1]
      rfl
    · show M2 3 5 % 2 = M2 168 2 % 2
      rw [C3, K2]
      rfl
    · show M2 168 2 % 2 ≠ 0 → 20 ≤ M2 168 1
      rw [K2]
      exact fun q => absurd rfl q
  · refine ⟨?_, ?_, ?_⟩
    · show 0 ≤ M2 168 4 ∧ M2 168 4 ≤ 16384
      rw [w168 4 (by omega) (by omega) (by omega) (by omega)]
      exact ⟨o1, o2⟩
    · show M2 6 1 = M2 168 4
      rw [w168 4 (by omega) (by omega) (by omega) (by omega), CC 6 (by omega) (by omega) (by omega) (by omega) (by omega) (by omega)]
      exact o3
    · show sl (M2 7) 0 (M2 168 4).toNat = sl (M2 170) 0 (M2 168 4).toNat
      rw [w168 4 (by omega) (by omega) (by omega) (by omega), CC 7 (by omega) (by omega) (by omega) (by omega) (by omega) (by omega), (C 170 (by decide) (by decide) (by decide) (by decide) (by decide) (by decide) (by decide) (by decide) (by decide)).trans (M1o 170 (by decide) (by decide) (by decide) (by decide) (by decide))]
      exact o4
  · refine hV M M2 hv ⟨fun c hc => CC c (by omega) (by omega) (by omega) (by omega) (by omega) (by omega), fun i hi => w168 i (by omega) (by omega) (by omega) (by omega), ?_, ?_⟩
    · rw [C3]
      show M1 3 6 = _
      rw [m3]
    · rw [C3]
      show M1 3 7 = _
      rw [m3]
theorem call_tie (hV : keepsV V) {F x : Int} (hF : -2147483648 ≤ F ∧ F ≤ 2147483647) (hX : -2147483648 ≤ x ∧ x ≤ 2147483647) : ca_I V L xs (d + 5) 39 254 [.int (Int32.ofInt F), .int (Int32.ofInt x)] := by
  intro k H hR
  obtain ⟨sh, M, nx, zl⟩ := H
  have hR0 := hR
  obtain ⟨⟨⟨s1, s2⟩, ⟨s3, s4, s5⟩, s6⟩, ht, ho, hT, hv⟩ := hR
  dsimp only at s1 s2 s3 s4 s5 s6 ht ho hT hv
  have hnm := tape_nm ht
  have ht2 := ht
  obtain ⟨⟨t1, t2⟩, t3, t4, t5, t6⟩ := ht
  have eT : sl (M 5) 0 (M 4 1).toNat = sl (M 169) 0 (M 168 1).toNat := by rw [t3]; exact t4
  have hW : twR (utC M) := hT.1
  have hn : 0 ≤ (utC M) 168 1 ∧ (utC M) 168 1 ≤ 16384 := ⟨t1, t2⟩
  have END : RR V L xs (k + 1) (sh, utM (utC M), nx, zl) := RR_used hV hR0
  refine m39 [fx 3, ti F, ti x] ?_
  refine addEntry_Y hT s3 s6 (by omega) hF hX (fun h => ?_) (fun h1 h2 h3 h4 h5 => ?_) (fun h1 h2 h3 h4 h5 p hp hth => ?_) (fun h1 h2 h3 h4 h5 p hp hth hro => ?_) (fun h1 h2 h3 h4 h5 p hp hth hE hA af ac M1 hFa hxa hI => ?_)
  · refine useTape_Y ?_
    refine ⟨-1, rfl, ⟨rfl, rfl⟩, ?_⟩
    refine mtie_Y hW hn hF hX (fun _ => ⟨rfl, END⟩) (fun g1 g2 g3 g4 => absurd ⟨g1, g2, g3, hnm.2 g4⟩ h) (fun g1 g2 g3 g4 => absurd ⟨g1, g2, g3, hnm.2 g4⟩ h) (fun g1 g2 g3 g4 => absurd ⟨g1, g2, g3, hnm.2 g4⟩ h) (fun g1 g2 g3 g4 => absurd ⟨g1, g2, g3, hnm.2 g4⟩ h)
  · refine useTape_Y ?_
    refine ⟨-4, rfl, ⟨rfl, rfl⟩, ?_⟩
    refine mtie_Y hW hn hF hX (fun g => absurd ⟨h1, h2, h3, hnm.1 h4⟩ g) (fun _ _ _ _ _ => ⟨rfl, END⟩) (fun _ _ _ _ g => absurd g h5) (fun _ _ _ _ g => absurd g h5) (fun _ _ _ _ g => absurd g h5)
  · refine useTape_Y ?_
    refine ⟨-3, rfl, ⟨rfl, rfl⟩, ?_⟩
    rw [eT] at hp hth
    refine mtie_Y hW hn hF hX (fun g => absurd ⟨h1, h2, h3, hnm.1 h4⟩ g) (fun _ _ _ _ g => absurd h5 g) (fun _ _ _ _ _ q _ _ => ⟨rfl, END⟩) (fun _ _ _ _ _ q hq g => ?_) (fun _ _ _ _ _ q hq g => ?_)
    · have e : q = p := isLB_u (M := M) hq hp
      rw [e] at g
      exact absurd hth g
    · have e : q = p := isLB_u (M := M) hq hp
      rw [e] at g
      exact absurd hth g
  · refine useTape_Y ?_
    refine ⟨-6, rfl, ⟨rfl, rfl⟩, ?_⟩
    rw [eT] at hp hth
    rw [t3] at hro
    refine mtie_Y hW hn hF hX (fun g => absurd ⟨h1, h2, h3, hnm.1 h4⟩ g) (fun _ _ _ _ g => absurd h5 g) (fun _ _ _ _ _ q hq g => ?_) (fun _ _ _ _ _ q hq g _ => ⟨rfl, END⟩) (fun _ _ _ _ _ q hq g g1 g2 => absurd ⟨g1, g2⟩ hro)
    have e : q = p := isLB_u (M := M) hq hp
    rw [e] at g
    exact absurd g hth
  · refine useTape_Y ?_
    refine ⟨M 177 x + 1, rfl, ⟨?_, ?_⟩, ?_⟩
    · show nrS sh nx (M 4 1).toNat 0 = sh 0
      have hx265 : 265 ≤ nx := s3
      unfold nrS shN
      rw [if_neg (by omega), if_neg (by omega)]
    · show M1 0 = M 0
      have hx265 : 265 ≤ nx := s3
      obtain ⟨aF, haF, _, _, sF, _⟩ := (hT.2.2.1 F h1.1 h1.2.1).1 h1.2.2
      obtain ⟨aX, haX, _, _, sX, _⟩ := (hT.2.2.1 x h2.1 h2.2.1).1 h2.2.2
      have q1 := sF.2
      have q2 := sX.2
      exact hI.2.2.2.2.2 0 (by decide) (by decide) (by decide) (by decide) (by omega) (by omega) (by omega) (by omega)
    · have hx265 : 265 ≤ nx := s3
      obtain ⟨aF, haF, _, _, sF, _⟩ := (hT.2.2.1 F h1.1 h1.2.1).1 h1.2.2
      obtain ⟨aX, haX, _, _, sX, _⟩ := (hT.2.2.1 x h2.1 h2.2.1).1 h2.2.2
      have q1 := sF.2
      have q2 := sX.2
      have E1 : ∀ c : Nat, 168 ≤ c → c ≤ 187 → utC M1 c = M c := by
        intro c c1 c2
        unfold utC
        rw [um_ne (by omega), um_ne (by omega)]
        exact hI.2.2.2.2.2 c (by omega) (by omega) (by omega) (by omega) (by omega) (by omega) (by omega) (by omega)
      obtain ⟨m1, m2, m3, m4⟩ := mod_same E1
      have e168 := E1 168 (by omega) (by omega)
      have e169 := E1 169 (by omega) (by omega)
      have e171 := E1 171 (by omega) (by omega)
      have e177 := E1 177 (by omega) (by omega)
      refine mtie_Y (m4 hT.1) (by rw [e168]; exact ⟨t1, t2⟩) hF hX ?_ ?_ ?_ ?_ ?_
      · rw [m1, m1, e171, e169, e168]
        exact fun g => absurd ⟨h1, h2, h3, hnm.1 h4⟩ g
      · rw [m1, m1, e171, e169, e168]
        exact fun _ _ _ _ g => absurd h5 g
      · simp only [m2, m3, e169, e168]
        intro _ _ _ _ _ q hq g
        rw [eT] at hp hth
        have e : q = p := isLB_u hq hp
        rw [e] at g
        exact absurd g hth
      · simp only [m2, m3, e169, e168]
        intro _ _ _ _ _ q hq _ g
        rw [t3] at hA
        exact absurd ⟨hE, hA⟩ g
      · simp only [m2, m3, e169, e168, e177]
        intro _ _ _ _ _ q hq _ _ _ M2 hJ
        rw [eT] at hp hth
        have e : q = p := isLB_u hq hp
        rw [e] at hJ
        rw [← eT] at hp hth
        refine ⟨trivial, ?_⟩
        rw [← t3] at hJ
        exact RR_ins hV hR0 h1 h2 h3 h5 h4 hp hth hE hA hFa hxa hI hJ
end CALLTIE
