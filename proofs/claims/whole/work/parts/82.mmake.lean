/-! CALLS of both: the reference's make -/
/-- the reference's cells with a node more, j bytes of its target copied -/
def mmF (M MA : FM) (F kind giv N t j : Int) : Prop :=
  (MA 168 5 = M 168 5 + 1 ∧ MA 168 19 = M 168 19 + j ∧ ∀ i : Int, i ≠ 5 → i ≠ 19 → MA 168 i = M 168 i)
  ∧ (MA 171 = ur (M 171) (M 168 5) kind ∧ MA 172 = ur (M 172) (M 168 5) (if kind = 1 then 493 else 420) ∧ MA 173 = ur (M 173) (M 168 5) 0 ∧ MA 174 = ur (M 174) (M 168 5) 0 ∧ MA 175 = ur (M 175) (M 168 5) 0 ∧ MA 176 = ur (M 176) (M 168 5) giv ∧ MA 177 = ur (M 177) (M 168 5) 0 ∧ MA 178 = ur (M 178) (M 168 5) F ∧ MA 179 = ur (M 179) (M 168 5) (if kind = 3 then M 168 19 else M 168 17) ∧ MA 180 = ur (M 180) (M 168 5) t)
  ∧ ((∀ i : Int, 0 ≤ i → i < M 168 19 → MA 182 i = M 182 i) ∧ sl (MA 182) (M 168 19) j.toNat = sl (M 169) (N + 1) j.toNat)
  ∧ ∀ c : Nat, c ≠ 168 → (c < 171 ∨ 180 < c) → c ≠ 182 → MA c = M c
section MMAKE
variable {d nx zl : Nat} {K : Option TV → FH → Prop} {sh : Nat → Option Shp} {M : FM} {F kind giv N t p n y7 : Int}
theorem mm350 (hi : 0 ≤ M 168 5 ∧ M 168 5 < 2000) (hE : 0 ≤ M 168 20 ∧ M 168 20 < 2000) (hp : 0 ≤ p ∧ p ≤ M 168 20) (hA : 0 ≤ M 168 26 ∧ M 168 26 + N ≤ 32768) (hB : 0 ≤ M 168 19 ∧ M 168 19 + t ≤ 32768) (hF : 0 ≤ F ∧ F < M 168 5) (hN : 0 ≤ N ∧ N ≤ 16384) (ht : 0 ≤ t ∧ t ≤ 4096) (h3 : 1 ≤ t → N + 1 + t ≤ 16384)
    (k : ∀ MA M2 : FM, mmF M MA F kind giv N t t → entF MA M2 p F (M 168 5) N → K (some (ti (M 168 5))) (sh, M2, nx, zl)) : ∀ (G : Nat) (j : Int) (MA : FM), (t - j).toNat < G → 0 ≤ j → j ≤ t → mmF M MA F kind giv N t j → fm_X (d + 1) kd245 350 [some (fx 168), some (ti F), some (ti kind), some (ti giv), some (ti n), some (ti N), some (ti t), some (ti y7), some (ti p), some (ti (M 168 5)), some (ti j)] [] (sh, MA, nx, zl) K := by
  intro G
  induction G with
  | zero => intro j MA h1; omega
  | succ G ih =>
    intro j MA h1 h2 h4 hm
    have hm0 := hm
    obtain ⟨⟨a1, a2, a3⟩, b, ⟨c1, c2⟩, e⟩ := hm
    have z20 := a3 20 (by omega) (by omega)
    have z26 := a3 26 (by omega) (by omega)
    refine s245_350 (d + 1) K _ _ _ ?_
    refine ⟨by omega, fun w => ?_, fun w => ?_⟩
    · have ej : j = t := by omega
      subst ej
      refine menter_Y hp.1 (by omega) (by omega) hN.1 hN.2 (by omega) (by omega) hi.1 hi.2 (by omega) (fun M2 hI => ?_)
      exact k MA M2 hm0 hI
    · have z169 : MA 169 = M 169 := e 169 (by decide) (by decide) (by decide)
      refine ⟨by omega, ?_⟩
      refine ⟨by omega, ?_⟩
      refine ih (j + 1) _ (by omega) (by omega) (by omega) ⟨⟨?_, ?_, ?_⟩, b, ⟨?_, ?_⟩, ?_⟩
      · exact a1
      · show ur (MA 168) 19 (MA 168 19 + 1) 19 = _
        rw [ur_at, a2]
        omega
      · intro i i1 i2
        show ur (MA 168) 19 _ i = _
        rw [ur_ne i2]
        exact a3 i i1 i2
      · intro i i1 i2
        show ur (MA 182) (MA 168 19) _ i = _
        rw [ur_ne (by omega)]
        exact c1 i i1 i2
      · show sl (ur (MA 182) (MA 168 19) _) _ _ = _
        have ej : (j + 1).toNat = j.toNat + 1 := by omega
        rw [ej, sl_back, sl_back, sl_ur (by omega), c2]
        have e1 : M 168 19 + (j.toNat : Int) = MA 168 19 := by omega
        have e2 : N + 1 + (j.toNat : Int) = N + 1 + j := by omega
        rw [e1, ur_at, e2]
        congr 2
        show ((MA 169 (N + 1 + j) + 128) % 256 - 128) % 256 = _
        rw [z169]
        omega
      · intro c q1 q2 q3
        show um (um MA 182 _) 168 _ c = _
        rw [um_ne q1, um_ne q3]
        exact e c q1 q2 q3
theorem mm222 (hi : 0 ≤ M 168 5 ∧ M 168 5 < 2000) (hE : 0 ≤ M 168 20 ∧ M 168 20 < 2000) (hp : 0 ≤ p ∧ p ≤ M 168 20) (hA : 0 ≤ M 168 26 ∧ M 168 26 + N ≤ 32768) (hB : 0 ≤ M 168 19 ∧ M 168 19 + t ≤ 32768) (hF : 0 ≤ F ∧ F < M 168 5) (hk : 1 ≤ kind ∧ kind ≤ 7) (hN : 0 ≤ N ∧ N ≤ 16384) (ht : 0 ≤ t ∧ t ≤ 4096) (h3 : 1 ≤ t → N + 1 + t ≤ 16384)
    (k : ∀ MA M2 : FM, mmF M MA F kind giv N t t → entF MA M2 p F (M 168 5) N → K (some (ti (M 168 5))) (sh, M2, nx, zl)) : b245_222 (d + 1) (fW (d + 1) kd245 K) K [some (fx 168), some (ti F), some (ti kind), some (ti giv), some (ti n), some (ti N), some (ti t), some (ti y7), some (ti p), none, none] [] (sh, M, nx, zl) := by
  have Z : ∀ m : Int, m = (if kind = 1 then 493 else 420) → b245_266 (d + 1) (fW (d + 1) kd245 K) K [some (fx 168), some (ti F), some (ti kind), some (ti giv), some (ti n), some (ti N), some (ti t), some (ti y7), some (ti p), some (ti (M 168 5)), none] [ti m, ti (M 168 5), fx 172] (sh, um (um M 168 (ur (M 168) 5 (M 168 5 + 1))) 171 (ur (M 171) (M 168 5) kind), nx, zl) := by
    intro m hm
    refine ⟨by omega, ?_⟩
    refine ⟨by omega, ?_⟩
    refine ⟨by omega, ?_⟩
    refine ⟨by omega, ?_⟩
    refine ⟨by omega, ?_⟩
    refine ⟨by omega, ?_⟩
    refine ⟨by omega, ?_⟩
    refine ⟨by omega, ?_⟩
    refine ⟨by omega, fun w => ?_, fun w => ?_⟩
    · refine ⟨by omega, ?_⟩
      refine mm350 hi hE hp hA hB hF hN ht h3 k (t.toNat + 1) 0 _ (by omega) (by omega) ht.1 ⟨⟨rfl, ?_, ?_⟩, ⟨rfl, ?_, rfl, rfl, rfl, rfl, rfl, rfl, ?_, rfl⟩, ⟨fun i _ _ => rfl, rfl⟩, ?_⟩
      · show M 168 19 = M 168 19 + 0
        omega
      · intro i i1 i2
        show ur (M 168) 5 _ i = _
        rw [ur_ne i1]
      · rw [← hm]
        rfl
      · rw [if_neg w]
        rfl
      · intro c q1 q2 q3
        rw [um_ne (by omega), um_ne (by omega), um_ne (by omega), um_ne (by omega), um_ne (by omega), um_ne (by omega), um_ne (by omega), um_ne (by omega), um_ne (by omega), um_ne (by omega), um_ne q1]
    · refine ⟨by omega, ?_⟩
      refine mm350 hi hE hp hA hB hF hN ht h3 k (t.toNat + 1) 0 _ (by omega) (by omega) ht.1 ⟨⟨rfl, ?_, ?_⟩, ⟨rfl, ?_, rfl, rfl, rfl, rfl, rfl, rfl, ?_, rfl⟩, ⟨fun i _ _ => rfl, rfl⟩, ?_⟩
      · show M 168 19 = M 168 19 + 0
        omega
      · intro i i1 i2
        show ur (M 168) 5 _ i = _
        rw [ur_ne i1]
      · rw [← hm]
        rfl
      · rw [if_pos w]
        rfl
      · intro c q1 q2 q3
        rw [um_ne (by omega), um_ne (by omega), um_ne (by omega), um_ne (by omega), um_ne (by omega), um_ne (by omega), um_ne (by omega), um_ne (by omega), um_ne (by omega), um_ne (by omega), um_ne q1]
  refine ⟨by omega, ?_⟩
  refine ⟨by omega, fun w => ?_, fun w => ?_⟩
  · exact Z 420 (by rw [if_neg w])
  · exact Z 493 (by rw [if_pos w])
/-- the reference's make -/
theorem mmake_Y {D : Int → Int} (hW : twR M) (hD : dpt M D) (hn : 0 ≤ M 168 1 ∧ M 168 1 ≤ 16384) (hF : -2147483648 ≤ F ∧ F ≤ 2147483647) (hk : -2147483648 ≤ kind ∧ kind ≤ 2147483647)
    (kB : (∀ N t, ¬ mkG M (M 169) (M 168 1) F kind N t) → K (some (ti (-1))) (sh, utM M, nx, zl))
    (kN : ∀ N t, mkG M (M 169) (M 168 1) F kind N t → M 171 F ≠ 1 → K (some (ti (-4))) (sh, utM M, nx, zl))
    (kT : ∀ N t, mkG M (M 169) (M 168 1) F kind N t → M 171 F = 1 → ∀ p, isLB M p F (sl (M 169) 0 N.toNat) → thr M p F (sl (M 169) 0 N.toNat) → K (some (ti (-3))) (sh, utM M, nx, zl))
    (kF : ∀ N t, mkG M (M 169) (M 168 1) F kind N t → M 171 F = 1 → ∀ p, isLB M p F (sl (M 169) 0 N.toNat) → ¬ thr M p F (sl (M 169) 0 N.toNat) → ¬ mkR M (D F) kind N t → K (some (ti (-6))) (sh, utM M, nx, zl))
    (kO : ∀ N t, mkG M (M 169) (M 168 1) F kind N t → M 171 F = 1 → ∀ p, isLB M p F (sl (M 169) 0 N.toNat) → ¬ thr M p F (sl (M 169) 0 N.toNat) → mkR M (D F) kind N t → ∀ MA M2 : FM, mmF (utM M) MA F kind giv N t t → entF MA M2 p F (M 168 5) N → K (some (ti (M 168 5))) (sh, M2, nx, zl)) : fm_Y (d + 3) 245 [.ref 168, .int (Int32.ofInt F), .int (Int32.ofInt kind), .int (Int32.ofInt giv)] (sh, M, nx, zl) K := by
  refine m245 [fx 168, ti F, ti kind, ti giv] ?_
  refine muse_Y ?_
  have hW' : twR (utM M) := hW
  have hD' : dpt (utM M) D := hD
  have hNr := hW.1.1
  have hEr := hW.2.2.2.1.1
  have hBr := hW.2.1.1
  -- the node and the rest, once the tape is judged
  have Q : ∀ N t y : Int, 0 ≤ y → y ≤ 1 → 0 ≤ N → N ≤ M 168 1 → (y = 0 → ∀ N2 t2, ¬ (spl (M 169) (M 168 1) kind N2 t2 ∧ nmF (M 169) 0 N2)) → (y = 1 → (1 ≤ kind ∧ kind ≤ 7 → spl (M 169) (M 168 1) kind N t) ∧ nmF (M 169) 0 N) → b245_95 (d + 2) (fW (d + 2) kd245 K) K [some (fx 168), some (ti F), some (ti kind), some (ti giv), some (ti (M 168 1)), some (ti N), some (ti t), none, none, none, none] [ti y] (sh, utM M, nx, zl) := by
    intro N t y y0 y1 n0 n1 hy0 hy1
    refine misNode_Y hW' hF (fun f0 f1 f2 => ?_) (fun hF9 => ?_)
    · refine ⟨by omega, fun z => by omega, fun _ => ?_⟩
      have f1' : F < M 168 5 := f1
      refine ⟨by omega, fun w => kB (fun N2 t2 z => by have := z.2.1; omega), fun w => ?_⟩
      refine ⟨by omega, fun w2 => kB (fun N2 t2 z => by have := z.2.1; omega), fun w2 => ?_⟩
      refine ⟨by omega, fun w3 => ?_, fun w3 => kB (fun N2 t2 z => hy0 (by omega) N2 t2 ⟨z.2.2.1, z.2.2.2⟩)⟩
      obtain ⟨hsp0, hnm⟩ := hy1 (by omega)
      have hsp := hsp0 ⟨by omega, by omega⟩
      have hnm1 := hnm.1
      have hG : mkG M (M 169) (M 168 1) F kind N t := ⟨⟨f0, f1', f2⟩, ⟨by omega, by omega⟩, hsp, hnm⟩
      have ht : (0 ≤ t ∧ t ≤ 4096) ∧ (1 ≤ t → N + 1 + t ≤ 16384) := by
        by_cases e : kind = 3
        · have := (hsp.2 e).2
          omega
        · have := (hsp.1 e).2
          omega
      have kf := (hW.1.2 F f0 f1').1
      have kf' : -2147483648 ≤ utM M 171 F ∧ utM M 171 F ≤ 2147483647 ∧ (-2147483648 : Int) ≤ 1 ∧ (1 : Int) ≤ 2147483647 := by
        show -2147483648 ≤ M 171 F ∧ M 171 F ≤ 2147483647 ∧ _
        omega
      refine ⟨by omega, ?_⟩
      refine ⟨kf', fun w4 => ?_, fun w4 => kN N t hG w4⟩
      refine mplaceOf_Y hW' hF n0 (by omega) (fun p hp => ?_)
      have hp1 : 0 ≤ p ∧ p ≤ M 168 20 := hp.1
      refine misThere_Y hW' hF hp1 n0 (by omega) (fun q1 q2 q3 => ?_) (fun q => ?_)
      · refine ⟨by omega, fun z => by omega, fun _ => ?_⟩
        exact kT N t hG w4 p hp ⟨q1, q2, q3⟩
      · refine ⟨by omega, fun _ => ?_, fun z => by omega⟩
        have z5 : utM M 168 5 = M 168 5 := rfl
        have z20 : utM M 168 20 = M 168 20 := rfl
        have z26 : utM M 168 26 = M 168 26 := rfl
        have z19 : utM M 168 19 = M 168 19 := rfl
        refine ⟨by omega, fun g => kF N t hG w4 p hp q (fun z => by have := z.1; omega), fun g1 => ?_⟩
        refine ⟨by omega, fun g => kF N t hG w4 p hp q (fun z => by have := z.2.1; omega), fun g2 => ?_⟩
        refine ⟨by omega, fun g => kF N t hG w4 p hp q (fun z => by have := z.2.2.1; omega), fun g3 => ?_⟩
        refine ⟨by omega, fun g => kF N t hG w4 p hp q (fun z => by have := z.2.2.2.1; omega), fun g4 => ?_⟩
        have X : mkR M (D F) kind N t → b245_222 (d + 2) (fW (d + 2) kd245 K) K [some (fx 168), some (ti F), some (ti kind), some (ti giv), some (ti (M 168 1)), some (ti N), some (ti t), some (ti y), some (ti p), none, none] [] (sh, utM M, nx, zl) := by
          intro hR
          exact mm222 (d := d + 1) (M := utM M) (by omega) (by omega) (by omega) (by omega) (by omega) (by omega) ⟨by omega, by omega⟩ (by omega) ht.1 ht.2 (fun MA M2 h1 h2 => kO N t hG w4 p hp q hR MA M2 h1 h2)
        refine ⟨by omega, fun g5 => X ⟨by omega, by omega, by omega, by omega, fun e => absurd e g5⟩, fun g5 => ?_⟩
        have dr := (hD.2 F f0 f1' f2 w4).1
        refine mdepth_Y hW' hD' f0 f1 f2 w4 ?_
        refine ⟨by omega, fun g6 => X ⟨by omega, by omega, by omega, by omega, fun _ => g6⟩, fun g6 => ?_⟩
        exact kF N t hG w4 p hp q (fun z => z.2.2.2.2 g5 g6)
    · exact ⟨by omega, fun _ => kB (fun N2 t2 z => hF9 z.1), fun z => by omega⟩
  have S : ∀ N t : Int, 0 ≤ N → N ≤ M 168 1 → (kind ≠ 3 → N = M 168 1 ∧ t = 0) → (kind = 3 → t = M 168 1 - N - 1 ∧ (N < M 168 1 → fz (M 169) (M 168 1) N)) → (∀ N2 t2, spl (M 169) (M 168 1) kind N2 t2 → N2 = N ∧ t2 = t) → b245_57 (d + 2) (fW (d + 2) kd245 K) K [some (fx 168), some (ti F), some (ti kind), some (ti giv), some (ti (M 168 1)), some (ti N), none, none, none, none, none] [ti t] (sh, utM M, nx, zl) := by
    intro N t n0 n1 a1 a2 a3
    have ht : -1 ≤ t ∧ t ≤ 16384 := by
      by_cases e : kind = 3
      · have := (a2 e).1
        omega
      · have := a1 e
        omega
    refine misName_Y (a := 169) (na := 16384) rfl (by omega) (by omega) (by omega) (by omega) (by omega) (by omega) (fun hnm => ?_) (fun hnm => ?_)
    · refine ⟨by omega, fun z => by omega, fun _ => ?_⟩
      refine ⟨by omega, fun w => ?_, fun w => ?_⟩
      · exact Q N t 1 (by omega) (by omega) n0 n1 (fun z => by omega) (fun _ => ⟨fun _ => ⟨a1, fun e => absurd e w⟩, hnm⟩)
      · have BAD : ¬ (1 ≤ t ∧ t ≤ 4096) → ∀ N2 t2, ¬ (spl (M 169) (M 168 1) kind N2 t2 ∧ nmF (M 169) 0 N2) := fun h N2 t2 z => by
          have e1 := (a3 N2 t2 z.1).2
          have e2 := (z.1.2 w).2.2
          omega
        refine ⟨by omega, fun w2 => ?_, fun w2 => ?_⟩
        · exact Q N t 0 (by omega) (by omega) n0 n1 (fun _ => BAD (by omega)) (fun z => by omega)
        · refine ⟨by omega, fun w3 => ?_, fun w3 => ?_⟩
          · exact Q N t 0 (by omega) (by omega) n0 n1 (fun _ => BAD (by omega)) (fun z => by omega)
          · exact Q N t 1 (by omega) (by omega) n0 n1 (fun z => by omega) (fun _ => ⟨fun _ => ⟨a1, fun e => ⟨(a2 e).2 (by have := (a2 e).1; omega), (a2 e).1, by omega, by omega⟩⟩, hnm⟩)
    · refine ⟨by omega, fun _ => ?_, fun z => by omega⟩
      exact Q N t 0 (by omega) (by omega) n0 n1 (fun _ N2 t2 z => hnm (by
        have e := (a3 N2 t2 z.1).1
        rw [← e]
        exact z.2)) (fun z => by omega)
  have R41 : ∀ N : Int, 0 ≤ N → N ≤ M 168 1 → (kind ≠ 3 → N = M 168 1) → (kind = 3 → (N < M 168 1 → fz (M 169) (M 168 1) N) ∧ (N = M 168 1 → ∀ j : Int, 0 ≤ j → j < M 168 1 → M 169 j % 256 ≠ 0)) → b245_41 (d + 2) (fW (d + 2) kd245 K) K [some (fx 168), some (ti F), some (ti kind), some (ti giv), some (ti (M 168 1)), some (ti N), none, none, none, none, none] [] (sh, utM M, nx, zl) := by
    intro N n0 n1 a1 a2
    refine ⟨by omega, fun w => ?_, fun w => ?_⟩
    · exact S N 0 n0 n1 (fun e => ⟨a1 e, rfl⟩) (fun e => absurd e w) (fun N2 t2 z => by
        have e1 := a1 w
        have e2 := z.1 w
        omega)
    · refine S N (M 168 1 - N - 1) n0 n1 (fun e => absurd w e) (fun e => ⟨rfl, (a2 e).1⟩) (fun N2 t2 z => ?_)
      obtain ⟨z1, z2, z3⟩ := z.2 w
      by_cases e : N < M 168 1
      · have e1 := fz_u z1 ((a2 w).1 e)
        omega
      · exact absurd z1.2.2.1 ((a2 w).2 (by omega) N2 z1.1 z1.2.1)
  refine ⟨by omega, fun w => ?_, fun w => ?_⟩
  · exact R41 (M 168 1) hn.1 (by omega) (fun _ => rfl) (fun e => absurd e w)
  · have L : ∀ (G : Nat) (i : Int), (M 168 1 - i).toNat < G → 0 ≤ i → i ≤ M 168 1 → (∀ j : Int, 0 ≤ j → j < i → M 169 j % 256 ≠ 0) → fm_X (d + 2) kd245 18 [some (fx 168), some (ti F), some (ti kind), some (ti giv), some (ti (M 168 1)), some (ti i), none, none, none, none, none] [] (sh, utM M, nx, zl) K := by
      intro G
      induction G with
      | zero => intro i h1; omega
      | succ G ih =>
        intro i h1 h2 h3 h4
        refine s245_18 (d + 2) K _ _ _ ?_
        refine ⟨by omega, fun w2 => ?_, fun w2 => ?_⟩
        · exact R41 i h2 h3 (fun e => absurd w e) (fun _ => ⟨fun z => by omega, fun e j j0 j1 => h4 j j0 (by omega)⟩)
        · have eb : utM M 169 i = M 169 i := rfl
          refine ⟨by omega, ?_⟩
          refine ⟨by omega, fun w3 => ?_, fun w3 => ?_⟩
          · exact R41 i h2 h3 (fun e => absurd w e) (fun _ => ⟨fun z => ⟨h2, z, by omega, h4⟩, fun e => by omega⟩)
          · refine ih (i + 1) (by omega) (by omega) (by omega) (fun j j0 j1 => ?_)
            by_cases e : j = i
            · subst e
              omega
            · exact h4 j j0 (by omega)
    exact L ((M 168 1).toNat + 1) 0 (by omega) (by omega) hn.1 (fun j j0 j1 => by omega)
end MMAKE
