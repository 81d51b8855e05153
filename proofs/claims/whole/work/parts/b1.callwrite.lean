/-! CALLS of both: write and fill -/
section CALLWRITE
variable {V : FM → Prop} {L d : Nat} {xs : Nat → Int32}
/-- the relation again, when only the tree has changed -/
theorem RR_mk2 {k nx zl : Nat} {sh : Nat → Option Shp} {M M2 : FM} (hV : keepsV V) (hR : RR V L xs k (sh, M, nx, zl)) (hT : treeR sh M2) (CC : ∀ c : Nat, c < 265 → c ≠ 17 → (c < 8 ∨ 14 < c) → (c < 168 ∨ 187 < c) → M2 c = M c) (e169 : M2 169 = M 169) (e170 : M2 170 = M 170) (w : ∀ i : Int, (i ≤ 4 ∨ 27 ≤ i) → M2 168 i = M 168 i) : RR V L xs (k + 1) (sh, M2, nx, zl) := by
  obtain ⟨hBase, ht, ho, -, hv⟩ := hR
  refine ⟨baseR_up hBase (CC 0 (by omega) (by omega) (by omega) (by omega)), ?_, ?_, hT, ?_⟩
  · show tapeR M2
    unfold tapeR
    rw [w 1 (by omega), w 2 (by omega), e169, CC 3 (by omega) (by omega) (by omega) (by omega), CC 4 (by omega) (by omega) (by omega) (by omega), CC 5 (by omega) (by omega) (by omega) (by omega)]
    exact ht
  · show outR M2
    unfold outR
    rw [w 4 (by omega), e170, CC 6 (by omega) (by omega) (by omega) (by omega), CC 7 (by omega) (by omega) (by omega) (by omega)]
    exact ho
  · exact hV M M2 hv ⟨fun c hc => CC c (by omega) (by omega) (by omega) (by omega), fun i hi => w i (by omega), by rw [CC 3 (by omega) (by omega) (by omega) (by omega)], by rw [CC 3 (by omega) (by omega) (by omega) (by omega)]⟩
theorem gw_other {sh : Nat → Option Shp} {M M3 : FM} {a : Nat} {n : Int} {g : Int → Int} (hT : treeR sh M) (ha : a = 17 ∨ 265 ≤ a) (h : gwF M M3 a n g) : ∀ c : Nat, c < 265 → c ≠ 17 → c ≠ 9 → c ≠ 10 → M3 c = M c := by
  obtain ⟨M2, hP, o1, -, -⟩ := h
  obtain ⟨low, -⟩ := gw_low ha (tree_nodeP hT) hP
  intro c c1 c2 c3 c4
  rw [o1 c c4, low c c1 c2, gwM_o M a n c3 c4 (by omega)]
theorem mw_other {M M3 : FM} {i n : Int} {g : Int → Int} (h : mwF M M3 i n g) : (∀ c : Nat, c ≠ 168 → c ≠ 179 → c ≠ 180 → c ≠ 181 → M3 c = M c) ∧ M3 168 = ur (M 168) 17 (M 168 17 + n) := by
  obtain ⟨M2, ⟨m1, -, -, -, m6⟩, o1, -, -⟩ := h
  exact ⟨fun c q1 q2 q3 q4 => (o1 c q4).trans (m6 c q1 q2 q3 q4), (o1 168 (by decide)).trans m1⟩
theorem cgX_to {sh : Nat → Option Shp} {M M3 M6 : FM} {i n : Int} {a : Nat} {T : List Int} (hT : treeR sh M) (ha : a = 17 ∨ 265 ≤ a) (h : cgX M M3 i a n T) (e : ∀ c : Nat, (8 ≤ c ∧ c ≤ 14 ∨ c = 17 ∨ 265 ≤ c) → M6 c = M3 c) : cgX M M6 i a n T := by
  obtain ⟨⟨h1, h2, h3⟩, h4, h5, h6⟩ := h
  refine ⟨⟨fun c hc => (e c (by omega)).trans (h1 c hc), by rw [e 9 (by omega)]; exact h2, by rw [e a (by omega)]; exact h3⟩, by rw [e 10 (by omega)]; exact h4, fun c hc hk => (e c (by omega)).trans (h5 c hc hk), fun k b k0 k1 ki hb => ?_⟩
  have hnp := tree_nodeP hT k k0 (by have := hT.2.1.1; omega)
  rcases hnp with hnp | ⟨b2, hh, tt, e3, e4, e5, -⟩
  · omega
  · have eb : b2 = b := by omega
    rw [eb] at e5
    rw [e b (by omega)]
    exact h6 k b k0 k1 ki hb
theorem call_write (hV : keepsV V) {F : Int} (hF : -2147483648 ≤ F ∧ F ≤ 2147483647) : ca_I V L xs (d + 5) 46 258 [.int (Int32.ofInt F)] := by
  intro k H hR
  obtain ⟨sh, M, nx, zl⟩ := H
  have hR0 := hR
  obtain ⟨⟨⟨s1, s2⟩, ⟨s3, s4, s5⟩, s6⟩, ht, ho, hT, hv⟩ := hR
  dsimp only at s1 s2 s3 s4 s5 s6 ht ho hT hv
  obtain ⟨⟨t1, t2⟩, t3, t4, t5, t6⟩ := ht
  have eT : sl (M 5) 0 (M 4 1).toNat = sl (M 169) 0 (M 4 1).toNat := by rw [t3]; exact t4
  have hW : twR (utC M) := hT.1
  have hn : 0 ≤ (utC M) 168 1 ∧ (utC M) 168 1 ≤ 16384 := ⟨t1, t2⟩
  have ta5 : M 9 1 = M 168 17 := hT.2.1.2.2.2.2
  have END : RR V L xs (k + 1) (sh, utM (utC M), nx, zl) := RR_used hV hR0
  refine m46 [fx 3, ti F] ?_
  refine append_Y hT (by omega) hF (fun h => ?_) (fun h1 h2 h3 => ?_) (fun h1 h2 h3 a M3 hia hG => ?_)
  · refine useTape_Y ?_
    refine ⟨-1, rfl, ⟨rfl, rfl⟩, ?_⟩
    exact mwrite_Y (d := d + 3) hW hn hF (fun _ => ⟨rfl, END⟩) (fun g1 g2 => absurd ⟨g1, g2⟩ h) (fun g1 g2 => absurd ⟨g1, g2⟩ h)
  · refine useTape_Y ?_
    refine ⟨-6, rfl, ⟨rfl, rfl⟩, ?_⟩
    refine mwrite_Y (d := d + 3) hW hn hF (fun g => absurd ⟨h1, h2⟩ g) (fun _ _ _ => ⟨rfl, END⟩) (fun _ _ g => ?_)
    have g2 : M 168 17 + M 168 1 ≤ 65536 := g
    omega
  · refine useTape_Y ?_
    obtain ⟨a2, ha2, hh, tt, hS, hE, hFF, -⟩ := (hT.2.2.1 F h1.1 h1.2.1).1 h1.2.2
    have ea : a2 = a := by omega
    rw [ea] at hS hE hFF
    have ha := hS.2
    have low := gw_other hT ha hG
    refine ⟨M a 12 + M 4 1, rfl, ⟨rfl, ?_⟩, ?_⟩
    · show M3 0 = M 0
      exact low 0 (by omega) (by omega) (by omega) (by omega)
    · have E1 : ∀ c : Nat, 168 ≤ c → c ≤ 187 → utC M3 c = M c := by
        intro c c1 c2
        unfold utC
        rw [um_ne (by omega), um_ne (by omega)]
        exact low c (by omega) (by omega) (by omega) (by omega)
      obtain ⟨m1, m2, m3, m4⟩ := mod_same E1
      have e168 := E1 168 (by omega) (by omega)
      have e169 := E1 169 (by omega) (by omega)
      have e171 := E1 171 (by omega) (by omega)
      have e180 := E1 180 (by omega) (by omega)
      have hW3 : twR (utC M3) := m4 hT.1
      have hW3' : twR (utM (utC M3)) := hW3
      refine mwrite_Y (d := d + 3) hW3 (by rw [e168]; exact ⟨t1, t2⟩) hF ?_ ?_ ?_
      · rw [m1, e171]
        exact fun g => absurd ⟨h1, h2⟩ g
      · rw [m1, e171, e168]
        intro _ _ g
        omega
      · rw [m1, e171, e168, e169, e180]
        intro _ _ g M6 hM
        have f12 := (hFF.2.1 h2).1
        refine ⟨by rw [f12, t3], ?_⟩
        rw [← t3] at hM g
        obtain ⟨o1, o2⟩ := mw_other hM
        have U1 : ∀ c : Nat, 171 ≤ c → c ≤ 187 → M c = utM (utC M3) c := by
          intro c c1 c2
          rw [ut_at M3 (by omega) (by omega) (by omega)]
          exact (low c (by omega) (by omega) (by omega) (by omega)).symm
        have U2 : ∀ j : Int, 3 ≤ j → M 168 j = utM (utC M3) 168 j := by
          intro j hj
          unfold utM
          rw [um_at, ur_ne (by omega), ur_ne (by omega), e168]
        have hX := mgX_F hW3' ⟨h1.1, by rw [← U2 5 (by omega)]; exact h1.2.1⟩ (by rw [← U1 171 (by omega) (by omega)]; exact h2) (by omega) (by rw [← U2 17 (by omega)]; omega) hM
        have hX2 := mgX_from hX U1 (fun j hj => U2 j (by omega))
        have hC := cgX_F hT ha hia ⟨h1.1, h1.2.1⟩ hE.1 hFF.1.2.2 (by omega) hG
        rw [eT] at hC
        have hC2 := cgX_to (M6 := M6) hT ha hC (fun c hc => by
          rw [o1 c (by omega) (by omega) (by omega) (by omega)]
          exact ut_at M3 (by omega) (by omega) (by omega))
        have hT2 := treeR_gw hT h1 h2 hia (by omega) hC2 hX2
        have C3 : M6 3 = utC M3 3 := by
          rw [o1 3 (by decide) (by decide) (by decide) (by decide)]
          rfl
        have m3 := low 3 (by omega) (by omega) (by omega) (by omega)
        refine RR_mk hV hR0 hT2 (by omega) rfl s6 (fun c q1 q2 q3 q4 q5 q6 => ?_) ?_ ?_ ?_ ?_ ?_ ?_ ?_ ?_ ?_
        · rw [o1 c (by omega) (by omega) (by omega) (by omega), ut_at M3 q3 q4 (by omega)]
          exact low c q1 q2 (by omega) (by omega)
        · rw [o1 170 (by omega) (by omega) (by omega) (by omega), ut_at M3 (by omega) (by omega) (by omega)]
          exact low 170 (by omega) (by omega) (by omega) (by omega)
        · rw [o2, ur_ne (by omega), ← U2 4 (by omega)]
        · intro i hi
          rw [o2, ur_ne (by omega), ← U2 i (by omega)]
        · rw [o2]
          rfl
        · rw [o2]
          rfl
        · rw [o1 4 (by decide) (by decide) (by decide) (by decide)]
          rfl
        · rw [C3]
          rfl
        · rw [C3]
          show M3 3 6 = _
          rw [m3]
        · rw [C3]
          show M3 3 7 = _
          rw [m3]
theorem call_fill (hV : keepsV V) {F b n : Int} (hF : -2147483648 ≤ F ∧ F ≤ 2147483647) (hb : -2147483648 ≤ b ∧ b ≤ 2147483647) (hn : -2147483648 ≤ n ∧ n ≤ 2147483647) : ca_I V L xs (d + 5) 49 260 [.int (Int32.ofInt F), .int (Int32.ofInt b), .int (Int32.ofInt n)] := by
  intro k H hR
  obtain ⟨sh, M, nx, zl⟩ := H
  have hR0 := hR
  obtain ⟨⟨⟨s1, s2⟩, ⟨s3, s4, s5⟩, s6⟩, ht, ho, hT, hv⟩ := hR
  dsimp only at s1 s2 s3 s4 s5 s6 ht ho hT hv
  have ta5 : M 9 1 = M 168 17 := hT.2.1.2.2.2.2
  have END : RR V L xs (k + 1) (sh, M, nx, zl) := RR_mk2 hV hR0 hT (fun _ _ _ _ _ => rfl) rfl rfl (fun _ _ => rfl)
  refine m49 [fx 3, ti F, ti b, ti n] ?_
  refine appendSame_Y hT hF hb hn (fun h => ?_) (fun h1 h2 h4 h3 => ?_) (fun h1 h2 h4 h3 a M3 hia hG => ?_)
  · refine ⟨-1, rfl, ⟨rfl, rfl⟩, ?_⟩
    exact mfill_Y (d := d + 3) hT.1 hF hb hn (fun _ => ⟨rfl, END⟩) (fun g1 g2 g3 => absurd ⟨g1, g2, g3⟩ h) (fun g1 g2 g3 => absurd ⟨g1, g2, g3⟩ h)
  · refine ⟨-6, rfl, ⟨rfl, rfl⟩, ?_⟩
    exact mfill_Y (d := d + 3) hT.1 hF hb hn (fun g => absurd ⟨h1, h2, h4⟩ g) (fun _ _ _ _ => ⟨rfl, END⟩) (fun _ _ _ g => by omega)
  · obtain ⟨a2, ha2, hh, tt, hS, hE, hFF, -⟩ := (hT.2.2.1 F h1.1 h1.2.1).1 h1.2.2
    have ea : a2 = a := by omega
    rw [ea] at hS hE hFF
    have ha := hS.2
    have low := gw_other hT ha hG
    refine ⟨M a 12 + n, rfl, ⟨rfl, ?_⟩, ?_⟩
    · show M3 0 = M 0
      exact low 0 (by omega) (by omega) (by omega) (by omega)
    · have E1 : ∀ c : Nat, 168 ≤ c → c ≤ 187 → M3 c = M c := fun c c1 c2 => low c (by omega) (by omega) (by omega) (by omega)
      obtain ⟨m1, m2, m3, m4⟩ := mod_same E1
      have e168 := E1 168 (by omega) (by omega)
      have e171 := E1 171 (by omega) (by omega)
      have e180 := E1 180 (by omega) (by omega)
      have hW3 : twR M3 := m4 hT.1
      refine mfill_Y (d := d + 3) hW3 hF hb hn ?_ ?_ ?_
      · rw [m1, e171]
        exact fun g => absurd ⟨h1, h2, h4⟩ g
      · rw [m1, e171, e168]
        intro _ _ _ g
        omega
      · rw [m1, e171, e168, e180]
        intro _ _ _ g M6 hM
        have f12 := (hFF.2.1 h2).1
        refine ⟨by rw [f12], ?_⟩
        obtain ⟨o1, o2⟩ := mw_other hM
        have hX := mgX_F hW3 ⟨h1.1, by rw [e168]; exact h1.2.1⟩ (by rw [e171]; exact h2) (by omega) (by rw [e168]; omega) hM
        have hX2 := mgX_from hX (fun c c1 c2 => (E1 c (by omega) c2).symm) (fun j hj => by rw [e168])
        have hC := cgX_F hT ha hia ⟨h1.1, h1.2.1⟩ hE.1 hFF.1.2.2 (by omega) hG
        have hC2 := cgX_to (M6 := M6) hT ha hC (fun c hc => o1 c (by omega) (by omega) (by omega) (by omega))
        have hT2 := treeR_gw hT h1 h2 hia (by omega) hC2 hX2
        refine RR_mk2 hV hR0 hT2 (fun c q1 q2 q5 q6 => ?_) ?_ ?_ (fun i hi => ?_)
        · rw [o1 c (by omega) (by omega) (by omega) (by omega)]
          exact low c q1 q2 (by omega) (by omega)
        · rw [o1 169 (by omega) (by omega) (by omega) (by omega)]
          exact low 169 (by omega) (by omega) (by omega) (by omega)
        · rw [o1 170 (by omega) (by omega) (by omega) (by omega)]
          exact low 170 (by omega) (by omega) (by omega) (by omega)
        · rw [o2, ur_ne (by omega), e168]
end CALLWRITE
