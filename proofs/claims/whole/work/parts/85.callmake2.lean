/-! CALLS of both: make, the call -/
section CALLMAKE2
variable {V : FM → Prop} {L d : Nat} {xs : Nat → Int32}
theorem call_make (hV : keepsV V) {F kind giv : Int} (hF : -2147483648 ≤ F ∧ F ≤ 2147483647) (hk : -2147483648 ≤ kind ∧ kind ≤ 2147483647) (hg : -2147483648 ≤ giv ∧ giv ≤ 2147483647) : ca_I V L xs (d + 5) 24 245 [.int (Int32.ofInt F), .int (Int32.ofInt kind), .int (Int32.ofInt giv)] := by
  intro k H hR
  obtain ⟨sh, M, nx, zl⟩ := H
  have hR0 := hR
  obtain ⟨⟨⟨s1, s2⟩, ⟨s3, s4, s5⟩, s6⟩, ht, ho, hT, hv⟩ := hR
  dsimp only at s1 s2 s3 s4 s5 s6 ht ho hT hv
  obtain ⟨⟨t1, t2⟩, t3, t4, t5, t6⟩ := ht
  have BY := sl_inj _ _ _ t4
  have BJ : ∀ j : Int, 0 ≤ j → j < M 168 1 → M 5 j % 256 = M 169 j % 256 := by
    intro j j0 j1
    have z := BY j.toNat (by omega)
    rw [show (0 : Int) + ((j.toNat : Nat) : Int) = j by omega] at z
    exact z
  have hm : ∀ N t, mkG M (M 5) (M 4 1) F kind N t ↔ mkG M (M 169) (M 168 1) F kind N t := by
    intro N t
    rw [t3]
    exact ⟨mkG_congr rfl BJ, mkG_congr rfl (fun j j0 j1 => (BJ j j0 j1).symm)⟩
  have hNM : ∀ N t, mkG M (M 169) (M 168 1) F kind N t → sl (M 5) 0 N.toNat = sl (M 169) 0 N.toNat := by
    intro N t q
    obtain ⟨-, -, ⟨a3, a4⟩, a5⟩ := q
    have hN : N ≤ M 168 1 := by
      by_cases e : kind = 3
      · have := (a4 e).1.2.1
        omega
      · have := a3 e
        omega
    exact sl_congr _ _ _ (fun i hi => BY i (by omega))
  have hW : twR (utC M) := hT.1
  have hD0 := tree_dpt hT
  have hD : dpt (utC M) (fun i => M (M 11 i).toNat 4) := hD0
  have hn : 0 ≤ (utC M) 168 1 ∧ (utC M) 168 1 ≤ 16384 := ⟨t1, t2⟩
  have END : RR V L xs (k + 1) (sh, utM (utC M), nx, zl) := RR_used hV hR0
  have a2 : M 8 2 = M 168 5 := hT.2.1.1
  refine m24 [fx 3, ti F, ti kind, ti giv] ?_
  refine addNode_Y hT s3 s6 (by omega) hF hk (fun h => ?_) (fun N t h h5 => ?_) (fun N t h h5 p hp hth => ?_) (fun N t h h5 p hp hth hro => ?_) (fun N t h h5 p hp hth hro af sh1 MU M1 nx1 zl1 hFa hS hU hI => ?_)
  · refine useTape_Y ?_
    refine ⟨-1, rfl, ⟨rfl, rfl⟩, ?_⟩
    refine mmake_Y hW hD hn hF hk (fun _ => ⟨rfl, END⟩) (fun N t g => absurd ((hm N t).2 g) (h N t)) (fun N t g => absurd ((hm N t).2 g) (h N t)) (fun N t g => absurd ((hm N t).2 g) (h N t)) (fun N t g => absurd ((hm N t).2 g) (h N t))
  · refine useTape_Y ?_
    refine ⟨-4, rfl, ⟨rfl, rfl⟩, ?_⟩
    refine mmake_Y hW hD hn hF hk (fun g => absurd ((hm N t).1 h) (g N t)) (fun _ _ _ _ => ⟨rfl, END⟩) (fun _ _ _ g => absurd g h5) (fun _ _ _ g => absurd g h5) (fun _ _ _ g => absurd g h5)
  · refine useTape_Y ?_
    refine ⟨-3, rfl, ⟨rfl, rfl⟩, ?_⟩
    have h' := (hm N t).1 h
    rw [hNM N t h'] at hp hth
    refine mmake_Y hW hD hn hF hk (fun g => absurd h' (g N t)) (fun _ _ _ g => absurd h5 g) (fun _ _ _ _ q _ _ => ⟨rfl, END⟩) (fun N2 t2 g2 _ q hq g => ?_) (fun N2 t2 g2 _ q hq g => ?_)
    · obtain ⟨e1, e2⟩ := spl_u g2.2.2.1 h'.2.2.1
      rw [e1] at hq g
      have e : q = p := isLB_u (M := M) hq hp
      rw [e] at g
      exact absurd hth g
    · obtain ⟨e1, e2⟩ := spl_u g2.2.2.1 h'.2.2.1
      rw [e1] at hq g
      have e : q = p := isLB_u (M := M) hq hp
      rw [e] at g
      exact absurd hth g
  · refine useTape_Y ?_
    refine ⟨-6, rfl, ⟨rfl, rfl⟩, ?_⟩
    have h' := (hm N t).1 h
    rw [hNM N t h'] at hp hth
    refine mmake_Y hW hD hn hF hk (fun g => absurd h' (g N t)) (fun _ _ _ g => absurd h5 g) (fun N2 t2 g2 _ q hq g => ?_) (fun _ _ _ _ q hq _ _ => ⟨rfl, END⟩) (fun N2 t2 g2 _ q hq _ g => ?_)
    · obtain ⟨e1, e2⟩ := spl_u g2.2.2.1 h'.2.2.1
      rw [e1] at hq g
      have e : q = p := isLB_u (M := M) hq hp
      rw [e] at g
      exact absurd g hth
    · obtain ⟨e1, e2⟩ := spl_u g2.2.2.1 h'.2.2.1
      rw [e1, e2] at g
      exact absurd g hro
  · refine useTape_Y ?_
    have h' := (hm N t).1 h
    have x265 : 265 ≤ nx := s3
    obtain ⟨aF, haF, hh, tt, sF, -⟩ := (hT.2.2.1 F h.1.1 h.1.2.1).1 h.1.2.2
    have q1 := sF.2
    have sF2 : af < nx := by
      by_cases e : nx ≤ af
      · have z := sF.1
        rw [show aF = af by omega] at z
        unfold shp at z
        rw [fsh_hi (by omega), show sh af = none from s6 af e] at z
        cases z
      · omega
    have n1 := hS.1
    have M1o : ∀ c : Nat, c ≠ 8 → c ≠ 11 → c ≠ 12 → c ≠ 13 → c ≠ 14 → (c < 265 ∧ c ≠ 17) → M1 c = M c := fun c q1 q2 q3 q4 q5 q6 => (hI.2.2.2.2.2 c q1 q3 q4 q5 (by omega) (by omega) (by omega) (by omega)).trans ((mk1_o MU nx q1 q2).trans (hU.2.2.2.2 c q1 (by omega)))
    refine ⟨M 8 2, rfl, ⟨?_, ?_⟩, ?_⟩
    · show nrS sh1 nx1 N.toNat 0 = sh 0
      unfold nrS shN
      rw [if_neg (by omega), if_neg (by omega)]
      exact hS.2.2.1 0 (by omega)
    · show M1 0 = M 0
      exact M1o 0 (by decide) (by decide) (by decide) (by decide) (by decide) (by decide)
    · have E1 : ∀ c : Nat, 168 ≤ c → c ≤ 187 → utC M1 c = M c := by
        intro c c1 c2
        unfold utC
        rw [um_ne (by omega), um_ne (by omega)]
        exact M1o c (by omega) (by omega) (by omega) (by omega) (by omega) (by omega)
      obtain ⟨m1, m2, m3, m4⟩ := mod_same E1
      have e168 := E1 168 (by omega) (by omega)
      have e169 := E1 169 (by omega) (by omega)
      have e171 := E1 171 (by omega) (by omega)
      have e177 := E1 177 (by omega) (by omega)
      have e178 := E1 178 (by omega) (by omega)
      have hD1 : dpt (utC M1) (fun i => M (M 11 i).toNat 4) := by
        unfold dpt live
        rw [e168, e171, e177, e178]
        exact hD0
      have hc : ∀ N t, mkG (utC M1) ((utC M1) 169) ((utC M1) 168 1) F kind N t = mkG M (M 169) (M 168 1) F kind N t := by
        intro N t
        unfold mkG
        rw [m1 F, e169, e168]
      have hr : ∀ D N t, mkR (utC M1) D kind N t = mkR M D kind N t := by
        intro D N t
        unfold mkR
        rw [e168]
      have hp0 := hp
      have hth0 := hth
      rw [hNM N t h'] at hp hth
      refine mmake_Y (m4 hT.1) hD1 (by rw [e168]; exact ⟨t1, t2⟩) hF hk ?_ ?_ ?_ ?_ ?_
      · simp only [hc]
        exact fun g => absurd h' (g N t)
      · simp only [hc, e171]
        exact fun _ _ _ g => absurd h5 g
      · simp only [hc, e171, m2, m3, e169]
        rw [e168]
        intro N2 t2 g2 _ q hq g
        obtain ⟨e1, e2⟩ := spl_u g2.2.2.1 h'.2.2.1
        rw [e1] at hq g
        have e : q = p := isLB_u hq hp
        rw [e] at g
        exact absurd g hth
      · simp only [hc, e171, m2, m3, e169, hr]
        rw [e168]
        intro N2 t2 g2 _ q hq _ g
        obtain ⟨e1, e2⟩ := spl_u g2.2.2.1 h'.2.2.1
        rw [e1, e2] at g
        exact absurd hro g
      · simp only [hc, e171, m2, m3, e169, hr]
        rw [e168]
        intro N2 t2 g2 _ q hq _ _ MA M2 hM hJ
        obtain ⟨e1, e2⟩ := spl_u g2.2.2.1 h'.2.2.1
        rw [e1] at hq
        have e : q = p := isLB_u hq hp
        rw [e, e1] at hJ
        rw [e1, e2] at hM
        refine ⟨by rw [a2], ?_⟩
        have ea : (M 11 F).toNat = af := by omega
        rw [ea] at hro
        exact RR_make hV hR0 h hg h5 hp0 hth0 hro hFa hS hU hI hM hJ
end CALLMAKE2
