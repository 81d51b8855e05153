/-! MOUNTING: listings; the reference's entries -/
def nbR (IR IS : List Int) (h : Int → Int) (s o r : Int) : Prop := exY IR IS h s o r ∨ ((∀ y : Int, ¬ fl IS IR.length s o y) ∧ r = 0)
theorem nbR_fl {IR IS : List Int} {h : Int → Int} {s o r y : Int} (hs : shR IR IS) (h1 : nbR IR IS h s o r) (h2 : fl IS IR.length s o y) : r = h y := by
  rcases h1 with ⟨z, z1, z2⟩ | ⟨z1, z2⟩
  · rw [z2, fl_one hs z1 h2]
  · exact absurd h2 (z1 y)
theorem nbR_ex {IR IS : List Int} {h : Int → Int} {s o r : Int} (h1 : nbR IR IS h s o r) (h2 : r ≠ 0) : exY IR IS h s o r := by
  rcases h1 with z | z
  · exact z
  · exact absurd z.2 h2
theorem nbR_r {IR IS : List Int} {g h pl : Int → Int} {N B ids F n s o r : Int} (hv : inV g N B ids F n pl h) (hn : 0 ≤ n) (h1 : nbR IR IS h s o r) : 0 ≤ r ∧ r ≤ n := by
  rcases h1 with ⟨z, z1, z2⟩ | ⟨z1, z2⟩
  · by_cases c : h z = 0
    · omega
    · have := (hv.2 z c).2.1
      omega
  · omega
section MENT
variable {d nx zl : Nat} {K : Option TV → FH → Prop} {sh : Nat → Option Shp} {M : FM} {IR IS LR LS : List Int} {B ids F n : Int} {pl h : Int → Int}
theorem inodeAtStart_Y {s o : Int} (hL : mlC M IR IS LR LS B ids F n pl h) (hs : -9223372036854775808 ≤ s ∧ s ≤ 9223372036854775807) (ho : 0 ≤ o ∧ o ≤ 4294967296) (k : ∀ r : Int, nbR IR IS h s o r → K (some (ti r)) (sh, M, nx, zl)) : fm_Y (d + 1) 361 [.ref 168, .long (Int64.ofInt s), .long (Int64.ofInt o)] (sh, M, nx, zl) K := by
  obtain ⟨s1, s2, s3, s4⟩ := hL.2.2.1
  have n1 := hL.1.1.1.1
  have n65 := hL.1.1.1.2.2.2
  have s6 := s1.1
  refine m361 [fx 168, tj s, tj o] ?_
  have L : ∀ (G : Nat) (i : Int), ((IS.length : Int) - i).toNat < G → 0 ≤ i → i ≤ IS.length → (∀ q : Int, 0 ≤ q → q < i → ¬ (lf IS q = s ∧ o < 8192 ∧ 8192 * q + o < IR.length)) → fm_X d kd361 3 [some (fx 168), some (tj s), none, some (tj o), none, some (ti i)] [] (sh, M, nx, zl) K := by
    intro G
    induction G with
    | zero => intro i q; omega
    | succ G ih =>
      intro i q1 q2 q3 q4
      refine s361_3 d K _ _ _ ?_
      refine ⟨by omega, fun w => k 0 (Or.inr ⟨fun y hy => ?_, rfl⟩), fun w => ?_⟩
      · obtain ⟨j, j1, j2, j3, j4, j5⟩ := hy
        exact q4 j j1.1 (by omega) ⟨j2, j3.2, by omega⟩
      have NX : ¬ (lf IS i = s ∧ o < 8192 ∧ 8192 * i + o < IR.length) → b361_75 d (fW d kd361 K) K [some (fx 168), some (tj s), none, some (tj o), none, some (ti i)] [] (sh, M, nx, zl) := by
        intro no
        refine ih (i + 1) (by omega) (by omega) (by omega) (fun q q0 q1 => ?_)
        by_cases c : q < i
        · exact q4 q q0 c
        · rw [show q = i by omega]
          exact no
      have e := s3 i q2 (by omega)
      have r := s1.2.1 i q2 (by omega)
      refine ⟨by omega, ?_⟩
      rw [e]
      refine ⟨by omega, ?_⟩
      refine ⟨by omega, fun w1 => NX (fun z => w1 z.1), fun w1 => ?_⟩
      refine ⟨by omega, fun w2 => NX (fun z => by have := z.2.1; omega), fun w2 => ?_⟩
      refine ⟨by omega, ?_⟩
      refine ⟨by omega, ?_⟩
      refine ⟨by omega, fun w3 => NX (fun z => by have := z.2.2; omega), fun w3 => ?_⟩
      refine ⟨by omega, ?_⟩
      rw [hL.1.2.2.2 _ (by omega) (by omega)]
      exact k _ (Or.inl ⟨_, ⟨i, by omega, w1, by omega, rfl, by omega⟩, rfl⟩)
  exact L _ 0 (Nat.lt_succ_self _) (by omega) (by omega) (fun q q0 q1 => by omega)
theorem isEntry_Y {hd a e la ls : Int} (hL : mlC M IR IS LR LS B ids F n pl h) (h12 : M 168 112 = e) (h16 : M 168 116 = a) (h18 : M 168 118 = hd) (ha : 0 ≤ a ∧ a ≤ e) (he : e ≤ LR.length) (hhd : 0 ≤ hd ∧ hd + 12 ≤ e) (hla : 0 ≤ la ∧ 0 ≤ ls ∧ la + ls ≤ LR.length) (k : ∀ z : Int, (z = 1 ∧ (nxE (lf LR) e a ∧ enP IR IS (lf LR) h hd a ∧ ordL (sl (lf LR) la ls.toNat) (nmS (lf LR) a) < 0) ∨ z = 0 ∧ ¬ (nxE (lf LR) e a ∧ enP IR IS (lf LR) h hd a ∧ ordL (sl (lf LR) la ls.toNat) (nmS (lf LR) a) < 0)) → K (some (ti z)) (sh, M, nx, zl)) : fm_Y (d + 5) 360 [.ref 168, .int (Int32.ofInt la), .int (Int32.ofInt ls)] (sh, M, nx, zl) K := by
  have lr := hL.2.2.2.2.2.1.2
  have nr := hL.1.2.1
  have hv := hL.2.1
  have hB := hL.1.1.2.1.2.1
  have hsI := hL.2.2.1.1
  have NO : ¬ (nxE (lf LR) e a ∧ enP IR IS (lf LR) h hd a ∧ ordL (sl (lf LR) la ls.toNat) (nmS (lf LR) a) < 0) → K (some (ti 0)) (sh, M, nx, zl) := fun q => k 0 (Or.inr ⟨rfl, q⟩)
  have l6 := le_nn (lf LR) 2 (a + 6)
  refine m360 [fx 168, ti la, ti ls] ?_
  refine ⟨by omega, fun w => ⟨Or.inl rfl, NO (fun q => by have := q.1.1; omega)⟩, fun w => ?_⟩
  refine ⟨by omega, ?_⟩
  refine w2_Y (a + 6) hL (by omega) (by omega) (fun r6 => ?_)
  refine ⟨by omega, ?_⟩
  refine ⟨by omega, fun w1 => ?_, fun w1 => ⟨Or.inl rfl, NO (fun q => by have := q.1.1; omega)⟩⟩
  have hfit : a + 9 + le (lf LR) (a + 6) 2 ≤ e := by omega
  refine w2_Y (a + 6) hL (by omega) (by omega) (fun _ => ?_)
  refine w4_Y (hd + 8) hL (by omega) (by omega) (fun r8 => ?_)
  refine w2_Y (a + 2) hL (by omega) (by omega) (fun r2 => ?_)
  refine ⟨by omega, ?_⟩
  have ec : chd (lf LR) hd a = le (lf LR) (hd + 8) 4 + ((le (lf LR) (a + 2) 2 + 32768) % 65536 - 32768) := rfl
  have cr : -40000 ≤ chd (lf LR) hd a ∧ chd (lf LR) hd a ≤ 4295100000 := by
    rw [ec]
    omega
  refine w4_Y (hd + 4) hL (by omega) (by omega) (fun r4 => ?_)
  refine w2_Y a hL (by omega) (by omega) (fun r0 => ?_)
  refine inodeAtStart_Y hL (by omega) (by omega) (fun q hq => ?_)
  have rq := nbR_r hv (by omega) hq
  refine ⟨by omega, fun w2 => ⟨Or.inl rfl, NO (fun z => ?_)⟩, fun w2 => ?_⟩
  · obtain ⟨y, y1, y2, y3, y4⟩ := z.2.1
    have := nbR_fl hsI hq y1
    exact y2.1 (by omega)
  obtain ⟨y, y1, y2⟩ := nbR_ex hq w2
  have hy : h y ≠ 0 := by omega
  have py := (hv.2 y hy).2.2
  refine ⟨by omega, ?_⟩
  refine ⟨by omega, fun w3 => ⟨Or.inl rfl, NO (fun z => ?_)⟩, fun w3 => ?_⟩
  · obtain ⟨y', z1, z2, z3, z4⟩ := z.2.1
    have := nbR_fl hsI hq z1
    exact w3 (by omega)
  refine whereIs_Y hL (by omega) ?_
  obtain ⟨ap, hd2⟩ := nd_ok hB hv (show 1 ≤ q by omega) (show q ≤ n by omega)
  rw [y2, py] at hd2 ap
  rw [y2, py]
  have hd21 := hd2.1
  have kr : 1 ≤ kdT (le (lf IR) y 2) ∧ kdT (le (lf IR) y 2) ≤ 7 := by
    have := hd2.2.1
    unfold kdT
    split <;> omega
  refine kindAt_Y hL.1.1 (by omega) hd2.2.1 ?_
  refine ⟨by omega, ?_⟩
  refine w2_Y (a + 4) hL (by omega) (by omega) (fun r44 => ?_)
  refine ⟨by omega, fun w4 => ?_, fun w4 => ⟨Or.inl rfl, NO (fun z => ?_)⟩⟩
  rotate_left
  · obtain ⟨y', z1, z2, z3, z4⟩ := z.2.1
    have ey := fl_one hsI z1 y1
    rw [ey] at z3
    exact w4 (by omega)
  have na := nm_agr hL.2.2.2.2.2.1.1 (show 0 ≤ a + 8 by omega) (show a + 8 + (le (lf LR) (a + 6) 2 + 1) ≤ LR.length by omega)
  refine misName_Y (rr242 sh).1.2.1 (by omega) (by omega) (by omega) (by omega) (by omega) (by omega) (fun q1 => ?_) (fun q1 => ?_)
  rotate_left
  · rw [h16] at q1
    refine ⟨by omega, fun _ => ⟨Or.inl rfl, NO (fun z => ?_)⟩, fun z => absurd rfl z⟩
    obtain ⟨y', z1, z2, z3, z4⟩ := z.2.1
    exact q1 (na.2 z4)
  rw [h16] at q1
  have nm := na.1 q1
  have n256 := nm.1
  have EN : enP IR IS (lf LR) h hd a := ⟨y, y1, ⟨hy, by omega⟩, by omega, nm⟩
  have NE : nxE (lf LR) e a := ⟨hfit, by omega⟩
  refine ⟨by omega, fun z => by omega, fun _ => ?_⟩
  have YES : ordL (sl (lf LR) la ls.toNat) (nmS (lf LR) a) < 0 → K (some (ti 1)) (sh, M, nx, zl) := fun q => k 1 (Or.inl ⟨rfl, NE, EN, q⟩)
  refine ⟨by omega, fun w5 => ⟨Or.inr rfl, YES ?_⟩, fun w5 => ?_⟩
  · rw [w5]
    show ordL [] (nmS (lf LR) a) < 0
    have : ordL [] (nmS (lf LR) a) = - ((nmS (lf LR) a).length : Int) := by cases nmS (lf LR) a <;> rfl
    rw [this]
    unfold nmS
    rw [sl_len]
    omega
  refine morder_I (rr242 sh).1.2.1 (rr242 sh).1.2.1 (by omega) (by omega) (by omega) (by omega) (by omega) (by omega) (by omega) (by omega) ?_
  have s1 : sl (M 245) la ls.toNat = sl (lf LR) la ls.toNat := sl_agr hL.2.2.2.2.2.1.1 (by omega) (by omega)
  have s2 : sl (M 245) (M 168 116 + 8) (le (lf LR) (a + 6) 2 + 1).toNat = nmS (lf LR) a := by
    rw [h16]
    exact sl_agr hL.2.2.2.2.2.1.1 (by omega) (by omega)
  have orr := ordL_sl (M 245) (M 245) la (M 168 116 + 8) ls.toNat (le (lf LR) (a + 6) 2 + 1).toNat
  rw [s1, s2] at orr ⊢
  exact ⟨by omega, fun w6 => ⟨Or.inl rfl, NO (fun z => by have := z.2.2; omega)⟩, fun w6 => ⟨Or.inr rfl, YES (by omega)⟩⟩
end MENT
