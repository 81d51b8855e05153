/-! CALLS of both: make -/
/-- the first byte 0 of n is at N -/
def fz (f : Int → Int) (n N : Int) : Prop := 0 ≤ N ∧ N < n ∧ f N % 256 = 0 ∧ ∀ j : Int, 0 ≤ j → j < N → f j % 256 ≠ 0
/-- a tape's name and its target -/
def spl (f : Int → Int) (n kind N t : Int) : Prop := (kind ≠ 3 → N = n ∧ t = 0) ∧ (kind = 3 → fz f n N ∧ t = n - N - 1 ∧ 1 ≤ t ∧ t ≤ 4096)
def mkG (M : FM) (f : Int → Int) (n F kind N t : Int) : Prop := okN M F ∧ (1 ≤ kind ∧ kind ≤ 7) ∧ spl f n kind N t ∧ nmF f 0 N
/-- there is room for it -/
def mkR (M : FM) (dep kind N t : Int) : Prop := M 168 5 < 2000 ∧ M 168 20 < 2000 ∧ M 168 26 + N ≤ 32768 ∧ M 168 19 + t ≤ 32768 ∧ (kind = 1 → dep ≠ 100)
theorem fz_u {f : Int → Int} {n N N2 : Int} (h1 : fz f n N) (h2 : fz f n N2) : N = N2 := by
  obtain ⟨a1, a2, a3, a4⟩ := h1
  obtain ⟨b1, b2, b3, b4⟩ := h2
  by_cases e : N < N2
  · exact absurd a3 (b4 N a1 e)
  · by_cases e2 : N2 < N
    · exact absurd b3 (a4 N2 b1 e2)
    · omega
theorem spl_u {f : Int → Int} {n kind N t N2 t2 : Int} (h1 : spl f n kind N t) (h2 : spl f n kind N2 t2) : N = N2 ∧ t = t2 := by
  by_cases e : kind = 3
  · obtain ⟨a1, a2, -⟩ := h1.2 e
    obtain ⟨b1, b2, -⟩ := h2.2 e
    have q := fz_u a1 b1
    omega
  · have a := h1.1 e
    have b := h2.1 e
    omega
section ADDNODE2
variable {d nx zl : Nat} {K : Option TV → FH → Prop} {sh : Nat → Option Shp} {M : FM} {F kind giv : Int}
theorem addNode_Y (hT : treeR sh M) (hx : fxN ≤ nx) (hfr : ∀ c, nx ≤ c → sh c = none) (hn : 0 ≤ M 4 1 ∧ M 4 1 ≤ 16384) (hF : -2147483648 ≤ F ∧ F ≤ 2147483647) (hk : -2147483648 ≤ kind ∧ kind ≤ 2147483647)
    (kB : (∀ N t, ¬ mkG M (M 5) (M 4 1) F kind N t) → K (some (ti (-1))) (sh, M, nx, zl))
    (kN : ∀ N t, mkG M (M 5) (M 4 1) F kind N t → M 171 F ≠ 1 → K (some (ti (-4))) (sh, M, nx, zl))
    (kT : ∀ N t, mkG M (M 5) (M 4 1) F kind N t → M 171 F = 1 → ∀ p, isLB M p F (sl (M 5) 0 N.toNat) → thr M p F (sl (M 5) 0 N.toNat) → K (some (ti (-3))) (sh, M, nx, zl))
    (kF : ∀ N t, mkG M (M 5) (M 4 1) F kind N t → M 171 F = 1 → ∀ p, isLB M p F (sl (M 5) 0 N.toNat) → ¬ thr M p F (sl (M 5) 0 N.toNat) → ¬ mkR M (M (M 11 F).toNat 4) kind N t → K (some (ti (-6))) (sh, M, nx, zl))
    (kO : ∀ N t, mkG M (M 5) (M 4 1) F kind N t → M 171 F = 1 → ∀ p, isLB M p F (sl (M 5) 0 N.toNat) → ¬ thr M p F (sl (M 5) 0 N.toNat) → mkR M (M (M 11 F).toNat 4) kind N t → ∀ (af : Nat) (sh1 : Nat → Option Shp) (MU M2 : FM) (nx1 zl1 : Nat), M 11 F = af → mkS sh sh1 nx nx1 zl zl1 af kind t → mkU M MU nx kind giv (M af 4 + 1) N t → insF (mk1 MU nx) M2 p af nx 5 nx1 N → K (some (ti (M 8 2))) (nrS sh1 nx1 N.toNat, M2, nx1 + 2, zl1 + 3 + N.toNat)) : fm_Y (d + 4) 25 [.ref 8, .int (Int32.ofInt F), .int (Int32.ofInt kind), .int (Int32.ofInt giv), .ref 4] (sh, M, nx, zl) K := by
  have hW := hT.1
  have hNr := hW.1.1
  have hEr := hW.2.2.2.1.1
  have hBr := hW.2.1.1
  obtain ⟨ta1, ta2, ta3, ta4, -⟩ := hT.2.1
  obtain ⟨r12, r13, r14⟩ := tree_rows hT
  refine m25 [fx 8, ti F, ti kind, ti giv, fx 4] ?_
  refine node_Y hT hF (fun af f0 f1 f2 f3 f4 => ?_) (fun hF9 => ?_)
  · obtain ⟨hh, tt, hS, hE, hFF, hL, hD⟩ := id f4
    have kf := (hW.1.2 F f0 f1).1
    have e2 : M af 1 = M 171 F := hE.2.1
    have eaf : (M 11 F).toNat = af := by omega
    rw [eaf] at kF kO
    have B : ∀ N t : Int, mkG M (M 5) (M 4 1) F kind N t → b25_102 (d + 3) (fW (d + 3) kd25 K) K [some (fx 8), some (ti F), some (ti kind), some (ti giv), some (fx 4), some (gr af), some (ti N), some (ti t), none, none] [] (sh, M, nx, zl) := by
      intro N t hG
      have hnm := hG.2.2.2.1
      have h3 : kind = 3 → 0 ≤ t ∧ t ≤ 4096 ∧ N + 1 + t ≤ 16384 := fun e => by
        have := (hG.2.2.1.2 e).2
        omega
      have hn3 : kind ≠ 3 → t = 0 := fun e => (hG.2.2.1.1 e).2
      have hkk := hG.2.1
      have ht : 0 ≤ t ∧ t ≤ 4096 := by
        by_cases e : kind = 3
        · have := h3 e
          omega
        · have := hn3 e
          omega
      refine ⟨_, hS.1, ?_⟩
      refine ⟨by omega, fun w => ?_, fun w => kN N t hG (by omega)⟩
      have wf : M 171 F = 1 := by omega
      refine seek_Y (t := 4) (tb := 5) (tn := 16384) hT (rowS_4 sh) (by omega) (by omega) (by omega) hS.1 hE.1 (by omega) (fun p hp => ?_)
      have hp1 := hp.1
      refine isAt_Y (t := 4) (tb := 5) (tn := 16384) hT (rowS_4 sh) (by omega) (by omega) (by omega) f0 f1 f2 f3 f4 hp1 (fun q1 q2 q3 => ?_) (fun q => ?_)
      · refine ⟨by omega, fun z => by omega, fun _ => ?_⟩
        exact kT N t hG wf p hp ⟨q1, q2, q3⟩
      · refine ⟨by omega, fun _ => ?_, fun z => by omega⟩
        refine ⟨by omega, fun w2 => kF N t hG wf p hp q (fun z => by have := z.1; omega), fun w2 => ?_⟩
        refine hasRoom_Y hT (by omega) (fun g1 g2 => ?_) (fun g1 => ?_)
        · refine ⟨by omega, fun z => by omega, fun _ => ?_⟩
          refine ⟨by omega, fun w3 => kF N t hG wf p hp q (fun z => by have := z.2.2.2.1; omega), fun w3 => ?_⟩
          have X : mkR M (M af 4) kind N t → b25_193 (d + 3) (fW (d + 3) kd25 K) K [some (fx 8), some (ti F), some (ti kind), some (ti giv), some (fx 4), some (gr af), some (ti N), some (ti t), some (ti p), none] [] (sh, M, nx, zl) := by
            intro hR
            refine mk193 (d := d + 1) (h1 := hh) (t1 := tt) hx hfr hkk (by omega) h3 hn3 hS.1 hS.2 (by omega) hp1.1 (by omega) (by omega) r12 r13 r14 (fun sh1 MU M2 nx1 zl1 z1 z2 z3 => ?_)
            exact kO N t hG wf p hp q hR af sh1 MU M2 nx1 zl1 f3 z1 z2 z3
          refine ⟨by omega, fun w4 => X ⟨by omega, g1, g2, by omega, fun e => by omega⟩, fun w4 => ?_⟩
          refine ⟨_, hS.1, ?_⟩
          have hd := hD.1
          refine ⟨by omega, fun w5 => X ⟨by omega, g1, g2, by omega, fun e => by omega⟩, fun w5 => ?_⟩
          have hd2 := (hD.2 wf).1
          exact kF N t hG wf p hp q (fun z => z.2.2.2.2 (by omega) (by omega))
        · refine ⟨by omega, fun _ => ?_, fun z => by omega⟩
          exact kF N t hG wf p hp q (fun z => g1 ⟨z.2.1, z.2.2.1⟩)
    have T : ∀ N t : Int, -1 ≤ N → N ≤ M 4 1 → (kind ≠ 3 → N = M 4 1 ∧ t = 0) → (kind = 3 → t = M 4 1 - N - 1 ∧ (0 ≤ N → fz (M 5) (M 4 1) N)) → (∀ N2 t2, spl (M 5) (M 4 1) kind N2 t2 → N2 = N ∧ t2 = t) → b25_47 (d + 3) (fW (d + 3) kd25 K) K [some (fx 8), some (ti F), some (ti kind), some (ti giv), some (fx 4), some (gr af), some (ti N), none, none, none] [ti t] (sh, M, nx, zl) := by
      intro N t n0 n1 a1 a2 a3
      have ht : -1 ≤ t ∧ t ≤ 16384 := by
        by_cases e : kind = 3
        · have := (a2 e).1
          omega
        · have := a1 e
          omega
      refine ⟨by omega, fun w => kB (fun N2 t2 z => by have := z.2.1; omega), fun w => ?_⟩
      refine ⟨by omega, fun w2 => kB (fun N2 t2 z => by have := z.2.1; omega), fun w2 => ?_⟩
      refine isName_Y (a := 5) (na := 16384) rfl (by omega) (by omega) (by omega) (by omega) (fun hnm => ?_) (fun hnm => ?_)
      · have hnm1 := hnm.1
        refine ⟨by omega, fun _ => ?_, fun z => by omega⟩
        refine ⟨by omega, fun w3 => ?_, fun w3 => ?_⟩
        · exact B N t ⟨⟨f0, f1, f2⟩, ⟨by omega, by omega⟩, ⟨a1, fun e => absurd e w3⟩, hnm⟩
        · refine ⟨by omega, fun w4 => ?_, fun w4 => ?_⟩
          · exact kB (fun N2 t2 z => by
              have := (a3 N2 t2 z.2.2.1).2
              have := (z.2.2.1.2 w3).2
              omega)
          · refine ⟨by omega, fun w5 => ?_, fun w5 => ?_⟩
            · exact B N t ⟨⟨f0, f1, f2⟩, ⟨by omega, by omega⟩, ⟨a1, fun e => ⟨(a2 e).2 (by omega), (a2 e).1, by omega, by omega⟩⟩, hnm⟩
            · exact kB (fun N2 t2 z => by
                have := (a3 N2 t2 z.2.2.1).2
                have := (z.2.2.1.2 w3).2
                omega)
      · refine ⟨by omega, fun z => by omega, fun _ => ?_⟩
        exact kB (fun N2 t2 z => hnm (by
          have e := (a3 N2 t2 z.2.2.1).1
          rw [← e]
          exact z.2.2.2))
    refine ⟨by omega, fun w => ?_, fun w => ?_⟩
    · refine ⟨by omega, fun _ => ?_, fun z => by omega⟩
      exact T (M 4 1) 0 (by omega) (by omega) (fun _ => ⟨rfl, rfl⟩) (fun e => absurd e w) (fun N2 t2 z => z.1 w)
    · refine indexOf_Y (a := 4) (b := 5) (na := 16384) (rowS_4 sh) (by omega) (by omega) (fun p p0 p1 p2 p3 => ?_) (fun p3 => ?_)
      · refine ⟨by omega, fun z => by omega, fun _ => ?_⟩
        refine T p (M 4 1 - p - 1) (by omega) (by omega) (fun e => absurd w e) (fun _ => ⟨rfl, fun _ => ⟨p0, p1, p2, p3⟩⟩) (fun N2 t2 z => ?_)
        have e := fz_u (z.2 w).1 ⟨p0, p1, p2, p3⟩
        have := (z.2 w).2
        omega
      · refine ⟨by omega, fun z => by omega, fun _ => ?_⟩
        refine T (-1) (M 4 1 - (-1) - 1) (by omega) (by omega) (fun e => absurd w e) (fun _ => ⟨rfl, fun z => by omega⟩) (fun N2 t2 z => ?_)
        obtain ⟨y1, y2, y3, y4⟩ := (z.2 w).1
        exact absurd y3 (p3 N2 y1 y2)
  · have B9 : K (some (ti (-1))) (sh, M, nx, zl) := kB (fun N t z => hF9 z.1)
    refine ⟨by omega, fun w => ?_, fun w => ?_⟩
    · exact ⟨by omega, fun _ => B9, fun z => by omega⟩
    · refine indexOf_Y (a := 4) (b := 5) (na := 16384) (rowS_4 sh) (by omega) (by omega) (fun p p0 p1 p2 p3 => ?_) (fun p3 => ?_)
      · exact ⟨by omega, fun z => by omega, fun _ => B9⟩
      · exact ⟨by omega, fun z => by omega, fun _ => B9⟩
end ADDNODE2
