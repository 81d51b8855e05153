/-! CALLS of both: drop, the call -/
section CALLDROP
variable {V : FM → Prop} {L d : Nat} {xs : Nat → Int32}
theorem RR_drop2 {k nx zl : Nat} {sh : Nat → Option Shp} {M M1 M3 M4 M5 M6 : FM} {p tl : Int} {af ac : Nat} (hV : keepsV V) (hR : RR V L xs k (sh, M, nx, zl)) (haf : af = 17 ∨ 265 ≤ af) (hac : ac = 17 ∨ 265 ≤ ac) (hI : remF M M1 p af ac (M 186 p)) (hN : fgN M1 M3 ac tl) (hP : shfP (fgM M3 ac) M4 ac (M ac 11 + M ac 12) (-(M ac 12)) (M 8 2)) (hJ : mdF (utM (utC M4)) M5 p (M 184 p) (M 186 p)) (o1 : ∀ c : Nat, c ≠ 168 → c ≠ 179 → c ≠ 180 → c ≠ 181 → c ≠ 182 → M6 c = M5 c) (o2 : ∀ i : Int, i ≠ 17 → i ≠ 19 → M6 168 i = M5 168 i) (hT2 : treeR sh M6) : RR V L xs (k + 1) (sh, M6, nx, zl) := by
  have hT : treeR sh M := hR.2.2.2.1
  have hfr := hR.1.2.2
  have low := drop_low hT hI haf hac hN hP
  obtain ⟨j1, j2, j3, j4, j5⟩ := hJ
  have M4o : ∀ c : Nat, (c < 8 ∨ 14 < c) → (c < 265 ∧ c ≠ 17) → M4 c = M c := by
    intro c q1 q5
    rw [low c q5.1 q5.2, fgM_o M3 ac (by omega) (by omega), hN.2.2.2 c (by omega) (by omega)]
    exact hI.2.2.2.2 c (by omega) (by omega) (by omega) (by omega) (by omega) (by omega)
  have m168 := M4o 168 (by omega) (by omega)
  have m3 := M4o 3 (by omega) (by omega)
  have w : ∀ i : Int, i ≠ 1 → i ≠ 2 → i ≠ 17 → i ≠ 19 → i ≠ 20 → i ≠ 26 → M6 168 i = M 168 i := by
    intro i q1 q2 q3 q4 q5 q6
    rw [o2 i q3 q4, j2, ur_ne q5, ur_ne q6]
    unfold utM
    rw [um_at, ur_ne q2, ur_ne q1]
    show M4 168 i = _
    rw [m168]
  have C3 : M6 3 = utC M4 3 := by
    rw [o1 3 (by decide) (by decide) (by decide) (by decide) (by decide), j5 3 (by decide) (by decide) (by decide)]
    rfl
  refine RR_mk hV hR hT2 (by omega) rfl hfr (fun c q1 q2 q3 q4 q5 q6 => ?_) ?_ ?_ ?_ ?_ ?_ ?_ ?_ ?_ ?_
  · rw [o1 c (by omega) (by omega) (by omega) (by omega) (by omega), j5 c (by omega) (by omega) (by omega), ut_at M4 q3 q4 (by omega)]
    exact M4o c (by omega) (by omega)
  · rw [o1 170 (by omega) (by omega) (by omega) (by omega) (by omega), j5 170 (by omega) (by omega) (by omega), ut_at M4 (by omega) (by omega) (by omega)]
    exact M4o 170 (by omega) (by omega)
  · exact w 4 (by omega) (by omega) (by omega) (by omega) (by omega) (by omega)
  · exact fun i hi => w i (by omega) (by omega) (by omega) (by omega) (by omega) (by omega)
  · rw [o2 1 (by omega) (by omega), j2]
    rfl
  · rw [o2 2 (by omega) (by omega), j2]
    rfl
  · rw [o1 4 (by decide) (by decide) (by decide) (by decide) (by decide), j5 4 (by decide) (by decide) (by decide)]
    rfl
  · rw [C3]
    rfl
  · rw [C3]
    show M4 3 6 = _
    rw [m3]
  · rw [C3]
    show M4 3 7 = _
    rw [m3]
theorem mdrop_on {nx zl : Nat} {sh : Nat → Option Shp} {M MZ : FM} {K : Option TV → FH → Prop} {F p : Int} (hT : treeR sh M) (E1 : ∀ c : Nat, 168 ≤ c → c ≤ 187 → utC MZ c = M c) (hn : 0 ≤ M 168 1 ∧ M 168 1 ≤ 16384) (hF : -2147483648 ≤ F ∧ F ≤ 2147483647) (h1 : okN M F) (h2 : nmF (M 169) 0 (M 168 1)) (h3 : M 171 F = 1) (hp : isLB M p F (sl (M 169) 0 (M 168 1).toNat)) (hth : thr M p F (sl (M 169) 0 (M 168 1).toNat)) (hno : cnt (M 183) (M 168 20).toNat (M 184 p) = 0)
    (k : ∀ M2 : FM, mdF (utM (utC MZ)) M2 p (M 184 p) (M 186 p) → (M 177 (M 184 p) ≠ 1 → K (some (ti (M 184 p))) (sh, M2, nx, zl)) ∧ (M 177 (M 184 p) = 1 → fm_Y (d + 2) 257 [.ref 168, .int (Int32.ofInt (M 184 p))] (sh, M2, nx, zl) (fun w H2 => w = none ∧ K (some (ti (M 184 p))) H2))) : fm_Y (d + 3) 255 [.ref 168, .int (Int32.ofInt F)] (sh, utC MZ, nx, zl) K := by
  obtain ⟨m1, m2, m3, m4⟩ := mod_same E1
  have e168 := E1 168 (by omega) (by omega)
  have e169 := E1 169 (by omega) (by omega)
  have e171 := E1 171 (by omega) (by omega)
  have e177 := E1 177 (by omega) (by omega)
  have e183 := E1 183 (by omega) (by omega)
  have e184 := E1 184 (by omega) (by omega)
  have e186 := E1 186 (by omega) (by omega)
  refine mdrop_Y (m4 hT.1) (by rw [e168]; exact hn) hF ?_ ?_ ?_ ?_ ?_
  · rw [m1, e169, e168]
    exact fun g => absurd ⟨h1, h2⟩ g
  · rw [m1, e169, e168, e171]
    exact fun _ _ g => absurd h3 g
  · rw [m1, e169, e168, e171]
    intro _ _ _ q hq g
    rw [m2] at hq
    rw [m3] at g
    have e : q = p := isLB_u hq hp
    rw [e] at g
    exact absurd hth g
  · rw [m1, e169, e168, e171, e183, e184]
    intro _ _ _ q hq _ g
    rw [m2] at hq
    have e : q = p := isLB_u hq hp
    rw [e] at g
    omega
  · rw [m1, e169, e168, e171, e183, e184, e177, e186]
    intro _ _ _ q hq _ _ M2 hM
    rw [m2] at hq
    have e : q = p := isLB_u hq hp
    rw [e] at hM ⊢
    exact k M2 hM
theorem call_drop (hV : keepsV V) {F : Int} (hF : -2147483648 ≤ F ∧ F ≤ 2147483647) : ca_I V L xs (d + 5) 41 255 [.int (Int32.ofInt F)] := by
  intro k H hR
  obtain ⟨sh, M, nx, zl⟩ := H
  have hR0 := hR
  obtain ⟨⟨⟨s1, s2⟩, ⟨s3, s4, s5⟩, s6⟩, ht, ho, hT, hv⟩ := hR
  dsimp only at s1 s2 s3 s4 s5 s6 ht ho hT hv
  have hnm := tape_nm ht
  obtain ⟨⟨t1, t2⟩, t3, t4, t5, t6⟩ := ht
  have eT : sl (M 5) 0 (M 4 1).toNat = sl (M 169) 0 (M 168 1).toNat := by rw [t3]; exact t4
  have hW : twR (utC M) := hT.1
  have hn : 0 ≤ (utC M) 168 1 ∧ (utC M) 168 1 ≤ 16384 := ⟨t1, t2⟩
  have END : RR V L xs (k + 1) (sh, utM (utC M), nx, zl) := RR_used hV hR0
  refine m41 [fx 3, ti F] ?_
  refine removeEntry_Y hT (by omega) hF (fun h => ?_) (fun h1 h2 h3 => ?_) (fun h1 h2 h3 p hp hth => ?_) (fun h1 h2 h3 p hp hth hno => ?_) (fun h1 h2 h3 p hp hth hno af ac M1 hFa hxa hI => ?_)
  · refine useTape_Y ?_
    refine ⟨-1, rfl, ⟨rfl, rfl⟩, ?_⟩
    refine mdrop_Y (d := d + 2) hW hn hF (fun _ => ⟨rfl, END⟩) (fun g1 g2 => absurd ⟨g1, hnm.2 g2⟩ h) (fun g1 g2 => absurd ⟨g1, hnm.2 g2⟩ h) (fun g1 g2 => absurd ⟨g1, hnm.2 g2⟩ h) (fun g1 g2 => absurd ⟨g1, hnm.2 g2⟩ h)
  · refine useTape_Y ?_
    refine ⟨-4, rfl, ⟨rfl, rfl⟩, ?_⟩
    refine mdrop_Y (d := d + 2) hW hn hF (fun g => absurd ⟨h1, hnm.1 h2⟩ g) (fun _ _ _ => ⟨rfl, END⟩) (fun _ _ g => absurd g h3) (fun _ _ g => absurd g h3) (fun _ _ g => absurd g h3)
  · refine useTape_Y ?_
    refine ⟨-2, rfl, ⟨rfl, rfl⟩, ?_⟩
    rw [eT] at hp hth
    refine mdrop_Y (d := d + 2) hW hn hF (fun g => absurd ⟨h1, hnm.1 h2⟩ g) (fun _ _ g => absurd h3 g) (fun _ _ _ q _ _ => ⟨rfl, END⟩) (fun _ _ _ q hq g => ?_) (fun _ _ _ q hq g => ?_)
    · have e : q = p := isLB_u (M := M) hq hp
      rw [e] at g
      exact absurd g hth
    · have e : q = p := isLB_u (M := M) hq hp
      rw [e] at g
      exact absurd g hth
  · refine useTape_Y ?_
    refine ⟨-5, rfl, ⟨rfl, rfl⟩, ?_⟩
    rw [eT] at hp hth
    refine mdrop_Y (d := d + 2) hW hn hF (fun g => absurd ⟨h1, hnm.1 h2⟩ g) (fun _ _ g => absurd h3 g) (fun _ _ _ q hq g => ?_) (fun _ _ _ q _ _ _ => ⟨rfl, END⟩) (fun _ _ _ q hq _ g => ?_)
    · have e : q = p := isLB_u (M := M) hq hp
      rw [e] at g
      exact absurd hth g
    · have e : q = p := isLB_u (M := M) hq hp
      rw [e] at g
      have g2 : cnt (M 183) (M 168 20).toNat (M 184 p) = 0 := g
      omega
  · rw [eT] at hp hth
    have hp0 := hp.1.1
    have hp1 := hth.1
    have hF2 : M 183 p = F := hth.2.1
    have hFa2 : M 11 (M 183 p) = af := by rw [hF2]; exact hFa
    obtain ⟨af2, ac2, ar, ab, g1, g2, g3, g4, ⟨b1, b2, b3, b4⟩, ⟨c1, c2, c3, c4, c5, c6⟩, -, nfc, ⟨l1, l2⟩⟩ := entry_at hT hp0 hp1
    have haf : af = 17 ∨ 265 ≤ af := by
      have z := b3.2
      have e : af2 = af := by omega
      rw [e] at z
      exact z
    have hac : ac = 17 ∨ 265 ≤ ac := by
      have z := c3.2
      have e : ac2 = ac := by omega
      rw [e] at z
      exact z
    refine ⟨fun hl => ?_, fun hl M3 M4 tl tl1 tl2 hN hP e0 => ?_⟩
    · refine useTape_Y ?_
      have M1o : ∀ c : Nat, c ≠ 8 → c ≠ 12 → c ≠ 13 → c ≠ 14 → (c < 265 ∧ c ≠ 17) → M1 c = M c := fun c q1 q2 q3 q4 q5 => hI.2.2.2.2 c q1 q2 q3 q4 (by omega) (by omega)
      refine ⟨M 184 p, rfl, ⟨rfl, ?_⟩, ?_⟩
      · show M1 0 = M 0
        exact M1o 0 (by decide) (by decide) (by decide) (by decide) (by decide)
      · refine mdrop_on (d := d + 2) hT (fun c q1 q2 => ?_) ⟨t1, t2⟩ hF h1 (hnm.1 h2) h3 hp hth hno (fun M2 hM => ⟨fun _ => ⟨rfl, ?_⟩, fun z => absurd z hl⟩)
        · unfold utC
          rw [um_ne (by omega), um_ne (by omega)]
          exact M1o c (by omega) (by omega) (by omega) (by omega) (by omega)
        · exact RR_drop1 hV hR0 hp0 hp1 hno hFa2 hxa hl hI hM
    · refine useTape_Y ?_
      have low := drop_low hT hI haf hac hN hP
      have M4o : ∀ c : Nat, (c < 8 ∨ 14 < c) → (c < 265 ∧ c ≠ 17) → M4 c = M c := by
        intro c q1 q5
        rw [low c q5.1 q5.2, fgM_o M3 ac (by omega) (by omega), hN.2.2.2 c (by omega) (by omega)]
        exact hI.2.2.2.2 c (by omega) (by omega) (by omega) (by omega) (by omega) (by omega)
      refine ⟨M 184 p, rfl, ⟨rfl, ?_⟩, ?_⟩
      · show M4 0 = M 0
        exact M4o 0 (by omega) (by omega)
      · refine mdrop_on (d := d + 2) hT (fun c q1 q2 => ?_) ⟨t1, t2⟩ hF h1 (hnm.1 h2) h3 hp hth hno (fun M5 hM => ⟨fun z => absurd hl z, fun _ => ?_⟩)
        · unfold utC
          rw [um_ne (by omega), um_ne (by omega)]
          exact M4o c (by omega) (by omega)
        · obtain ⟨MX, v1, v2, v3, v4, v5, ⟨v6, v7⟩, v8⟩ := drop_virt hT hp0 hp1 hno hFa2 hxa hl hI hN hP hM
          have w5 : twR M5 := (mod_same v8).2.2.2 v1.1
          have e171 : M5 171 = M 171 := (v8 171 (by omega) (by omega)).trans v6
          have e180 : M5 180 = M 180 := (v8 180 (by omega) (by omega)).trans v7
          have e168 : M5 168 = MX 168 := v8 168 (by omega) (by omega)
          rw [← e168] at v3
          have q5 := w5.1.1
          have qB := w5.2.1.1
          have qx := (w5.2.1.2 (M 184 p) v3.1 v3.2).1
          have FIN : ∀ M6 : FM, mfX M5 M6 (M 184 p) → (∀ c : Nat, c ≠ 168 → c ≠ 179 → c ≠ 180 → c ≠ 181 → c ≠ 182 → M6 c = M5 c) → (∀ i : Int, i ≠ 17 → i ≠ 19 → M6 168 i = M5 168 i) → RR V L xs (k + 1) (sh, M6, nx, zl) := by
            intro M6 hX o1 o2
            have hX2 := mfX_from hX (fun c q1 q2 => (v8 c q1 q2).symm)
            have O : ∀ c : Nat, (c < 168 ∨ 187 < c) → M6 c = M5 c := fun c hc => o1 c (by omega) (by omega) (by omega) (by omega) (by omega)
            have hC : fgR MX M6 (M 184 p) ac tl := by
              obtain ⟨⟨y1, y2, y3, y4⟩, y5, y6, y7⟩ := v5
              refine ⟨?_, ?_, fun c hc hi => ?_, fun i b i0 i1 ix hb => ?_⟩
              · rw [O 11 (by omega), O 8 (by omega), O 9 (by omega)]
                exact ⟨y1, y2, y3, y4⟩
              · rw [O 10 (by omega)]
                exact y5
              · rw [O c (by omega)]
                exact y6 c hc hi
              · have z := y7 i b i0 i1 ix hb
                have hb2 : b = 17 ∨ 265 ≤ b := by
                  by_cases hl2 : lvX MX (M 184 p) i
                  · obtain ⟨b2, hb2, _, _, sB, -⟩ := (v1.2.2.1 i i0 i1).1 hl2
                    have e : b2 = b := by omega
                    rw [e] at sB
                    exact sB.2
                  · have := (v1.2.2.1 i i0 i1).2 hl2
                    omega
                rw [O b (by omega)]
                exact z
            have hT2 := treeR_fg v1 v2 ⟨v3.1, by rw [← e168]; exact v3.2⟩ v4 (by rw [v6, v7]; exact tl1) (by rw [v6]; exact tl2) hC hX2
            exact RR_drop2 hV hR0 haf hac hI hN hP hM o1 o2 hT2
          refine mforget_Y (d := d + 2) ⟨by omega, q5.2.1⟩ v3 (fun i i0 i1 => ⟨(w5.1.2 i i0 i1).1, fun z => ?_⟩) (fun z => ?_) ⟨qB.1, qB.2.1⟩ ⟨qB.2.2.1, qB.2.2.2⟩ (fun n2 n3 => ⟨rfl, rfl, ?_⟩) (fun n2 M6 hM6 => ⟨rfl, rfl, ?_⟩) (fun n3 M6 hM6 => ⟨rfl, rfl, ?_⟩)
          · have y := w5.2.1.2 i i0 i1
            rcases z with z | z
            · have := y.2.1 z
              omega
            · have := y.2.2 z
              omega
          · have y := w5.2.1.2 (M 184 p) v3.1 v3.2
            rcases z with z | z
            · have := y.2.1 z
              omega
            · have := y.2.2 z
              omega
          · exact FIN M5 (mfX_id w5 n2 n3) (fun _ _ _ _ _ _ => rfl) (fun _ _ _ => rfl)
          · exact FIN M6 (mfX_F w5 v3 (Or.inl ⟨n2, rfl, rfl⟩) hM6) (fun c q1 q2 q3 q4 _ => hM6.2.2.2.2 c q1 q2 q3 q4) (fun i q1 _ => hM6.1.2 i q1)
          · exact FIN M6 (mfX_F w5 v3 (Or.inr ⟨n3, rfl, rfl⟩) hM6) (fun c q1 q2 q3 _ q4 => hM6.2.2.2.2 c q1 q2 q3 q4) (fun i _ q1 => hM6.1.2 i q1)
end CALLDROP
