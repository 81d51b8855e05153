/-! FREEZING: a listing, the class: whole -/
/-- the row of listings with a listing more; none: it ran over -/
noncomputable def lsO (z : Int) (g : Nat → ENt) (n : Nat) : Option (List Int) → Option (List Int)
  | none => none
  | some Q => if (lsC g (lsS z g Q n)).length ≤ 65536 then some (lsC g (lsS z g Q n)) else none
theorem lsO_s {z : Int} {g : Nat → ENt} {n : Nat} {Q : List Int} (h : (lsC g (lsS z g Q n)).length ≤ 65536) : lsO z g n (some Q) = some (lsC g (lsS z g Q n)) := if_pos h
theorem lsO_x {z : Int} {g : Nat → ENt} {n : Nat} {Q : List Int} (h : ¬ (lsC g (lsS z g Q n)).length ≤ 65536) : lsO z g n (some Q) = none := if_neg h
theorem pt_head {A B Y : List Int} {m : Nat} {e : ENt} (h1 : 1 ≤ m) (h2 : m ≤ 255) : ptL A.length m ((A ++ lhd m e B) ++ Y) = A ++ lhd (m + 1) e (B ++ Y) := by
  unfold ptL lhd
  rw [List.append_assoc, List.set_append_right _ _ (Nat.le_refl _), Nat.sub_self]
  show A ++ (((m : Int) % 256) :: ((leL (((m : Int) - 1) / 256) 3 ++ (leL (lst e) 4 ++ (leL (lnu e) 4 ++ B))) ++ Y)) = A ++ (((((m + 1 : Nat) : Int) - 1) % 256) :: (leL ((((m + 1 : Nat) : Int) - 1) / 256) 3 ++ (leL (lst e) 4 ++ (leL (lnu e) 4 ++ (B ++ Y)))))
  rw [show ((m : Int) - 1) / 256 = 0 by omega, show (((m + 1 : Nat) : Int) - 1) / 256 = 0 by omega, show (((m + 1 : Nat) : Int) - 1) = m by omega]
  simp only [List.append_assoc]
theorem pt_same {A Y : List Int} {e : ENt} : ptL A.length 0 (A ++ lhd 1 e Y) = A ++ lhd 1 e Y := by
  unfold ptL lhd
  rw [List.set_append_right _ _ (Nat.le_refl _), Nat.sub_self]
  rfl
theorem ixL_len {g : Nat → ENt} {n : Nat} (hn : ∀ j : Nat, j < n → (lnm (g j)).length ≤ 256) : ∀ l : List (Int × Int × Nat), (∀ p ∈ l, p.2.2 < n) → (ixL g l).length ≤ 268 * l.length
  | [], _ => Nat.le_refl _
  | p :: r, h => by
    have ih := ixL_len hn r (fun q hq => h q (List.mem_cons_of_mem _ hq))
    have l := hn p.2.2 (h p (List.mem_cons_self))
    show (ixB p.1 p.2.1 (lnm (g p.2.2)) ++ ixL g r).length ≤ 268 * (r.length + 1)
    rw [List.length_append, ixB_len]
    omega
/-- where the class is, behind k entries -/
def lwI (z : Int) (g : Nat → ENt) (sQ : Option (List Int)) (k : Nat) (M1 : FM) (hd td : Int) (ld : Option Nat) (sX : Option (List Int)) : Prop := (∃ Q : List Int, sQ = some Q ∧ (lsC g (lsS z g Q k)).length ≤ 65536 ∧ cpO M1 72 74 75 73 88 89 65552 z (some []) (some (lsC g (lsS z g Q k))) ∧ (lM (lsS z g Q k) = 0 → ld = none) ∧ (lM (lsS z g Q k) ≠ 0 → ld = some (lH (lsS z g Q k)) ∧ hd = (lA (lsS z g Q k)).length ∧ td = lM (lsS z g Q k)) ∧ M1 18 13 = (lX (lsS z g Q k)).length ∧ sX = some (ixL g (lX (lsS z g Q k))) ∧ M1 18 14 = Q.length) ∨ ((∀ Q : List Int, sQ = some Q → 65536 < (lsC g (lsS z g Q k)).length) ∧ cpO M1 72 74 75 73 88 89 65552 z (some []) none)
section CLISTING2
variable {d nx zl : Nat} {K : Option TV → FH → Prop} {sh : Nat → Option Shp} {M0 M : FM} {op : Int} {x : Int} {a : Nat}
theorem lnm_le (hT : treeR sh M0) {j : Nat} (hj : j < ec M0 x) : 1 ≤ (lnm (cgE M0 M x j)).length ∧ (lnm (cgE M0 M x j)).length ≤ 256 := by
  have er := fe_r hT.1 x
  have e := (hT.1.2.2.2.1.2 (fe M0 x + j) (by omega) (by omega)).2.2.1
  show 1 ≤ (sl (M0 187) (M0 185 (fe M0 x + j)) (M0 186 (fe M0 x + j)).toNat).length ∧ (sl (M0 187) (M0 185 (fe M0 x + j)) (M0 186 (fe M0 x + j)).toNat).length ≤ 256
  rw [sl_len]
  omega
theorem cputListing_Y {sQ : Option (List Int)} (hT : treeR sh M0) (hz : fzF sh M0 M) (hx : (0 ≤ x ∧ x < M0 168 5) ∧ live M0 x) (ha : M0 11 x = a) (hC : pkC M) (hop : 0 ≤ op ∧ op ≤ 15) (h17 : M 18 17 = op) (hb : cgB M0 M x) (hQ : cpO M 72 74 75 73 88 89 65552 (1 - op % 2) (some []) sQ)
    (k : ∀ M2 : FM, lwF M M2 → M2 18 14 = M 74 1 → M 72 2 ≤ M2 72 2 → cpO M2 72 74 75 73 88 89 65552 (1 - op % 2) (some []) (lsO (1 - op % 2) (cgE M0 M x) (ec M0 x) sQ) → (0 ≤ M2 18 13 ∧ M2 18 13 ≤ 2000) → (0 ≤ M2 94 1 ∧ M2 94 1 ≤ 8192) → (∀ Q : List Int, sQ = some Q → (lsC (cgE M0 M x) (lsS (1 - op % 2) (cgE M0 M x) Q (ec M0 x))).length ≤ 65536 → M2 18 13 = (lX (lsS (1 - op % 2) (cgE M0 M x) Q (ec M0 x))).length ∧ rzO M2 94 95 8192 (some (ixL (cgE M0 M x) (lX (lsS (1 - op % 2) (cgE M0 M x) Q (ec M0 x)))))) → K none (sh, M2, nx, zl)) : fm_Y (d + 7) 118 [.ref 18, .ref 8, .ref a] (sh, M, nx, zl) K := by
  obtain ⟨a2, h9, t9, ea, hS, ha3, hE, -⟩ := nd_of hT hx
  have ea2 : a2 = a := by omega
  rw [ea2] at hS ha3 hE
  have n20 := hT.1.2.2.2.1.1
  have nN := hT.1.1.1
  have er := fe_r hT.1 x
  have ba : M a 10 = (ec M0 x : Nat) := by
    rw [hz.2.2 a 10 ha3 (by decide)]
    have q1 := hE.2.2.2.2.2.2.2.2
    have q2 := (cnt_nn (M0 183) x (M0 168 20).toNat).1
    unfold ec
    omega
  obtain ⟨z, hzz⟩ : ∃ z : Int, z = 1 - op % 2 := ⟨_, rfl⟩
  obtain ⟨g, hg⟩ : ∃ g : Nat → ENt, g = cgE M0 M x := ⟨_, rfl⟩
  have hnm : ∀ j : Nat, j < ec M0 x → (lnm (g j)).length ≤ 256 := fun j hj => by
    rw [hg]
    exact (lnm_le (M := M) hT hj).2
  rw [← hzz, ← hg] at k
  have q74 := hQ.1.1
  have LOOP : ∀ (N i : Nat) (M1 : FM) (hd td : Int) (ld : Option Nat) (sX : Option (List Int)) (y9 : Option TV), ec M0 x - i < N → i ≤ ec M0 x → lwF M M1 → M1 18 14 = M 74 1 → M 72 2 ≤ M1 72 2 → (0 ≤ hd ∧ hd ≤ 65536) → (0 ≤ td ∧ td ≤ 256) → (∀ j : Nat, ld = some j → j < ec M0 x) → (0 ≤ M1 18 13 ∧ M1 18 13 ≤ i) → rzO M1 94 95 8192 sX → lwI z g sQ i M1 hd td ld sX → fm_X (d + 6) kd118 48 [some (fx 18), some (fx 8), some (gr a), some (fx 74), some (ti hd), some (ti td), some (ldV M0 x ld), some (ti (fe M0 x)), some (ti (fe M0 x + i)), y9] [] (sh, M1, nx, zl) K := by
    intro N
    induction N with
    | zero =>
      intro i M1 hd td ld sX y9 hN
      omega
    | succ N ih =>
      intro i M1 hd td ld sX y9 hN hi f1 h14 h72 hhd htd hld h13 hX hI
      by_cases c : i = ec M0 x
      · have e10 : M1 a 10 = (ec M0 x : Nat) := by
          rw [f1.1 a (by omega)]
          exact ba
        refine s118_48 (d + 6) K _ _ _ ?_
        refine ⟨_, hS, ?_⟩
        refine ⟨by omega, fun w => ?_, fun w => by omega⟩
        rcases hI with ⟨Q, hQ1, hl, w1, -, -, i1, i2, -⟩ | ⟨hl, w1⟩
        · rw [c] at hl w1 i1 i2
          refine k M1 f1 h14 h72 ?_ (by omega) hX.1 (fun Q2 hQ2 _ => ?_)
          · rw [hQ1, lsO_s hl]
            exact w1
          · rw [hQ1] at hQ2
            rw [← Option.some.inj hQ2]
            rw [i2] at hX
            exact ⟨i1, hX⟩
        · rw [c] at hl
          refine k M1 f1 h14 h72 ?_ (by omega) hX.1 (fun Q2 hQ2 hl2 => ?_)
          · cases hs : sQ with
            | none => exact w1
            | some Q =>
              have hlQ := hl Q hs
              rw [lsO_x (by omega)]
              exact w1
          · have := hl Q2 hQ2
            omega
      · have NXT : ∀ (M2 : FM) (hd2 td2 : Int) (ld2 : Option Nat) (sX2 : Option (List Int)) (y : Option TV), lwF M1 M2 → M2 18 14 = M1 18 14 → M1 72 2 ≤ M2 72 2 → (0 ≤ hd2 ∧ hd2 ≤ 65536) → (0 ≤ td2 ∧ td2 ≤ 256) → (∀ j : Nat, ld2 = some j → j < ec M0 x) → (M1 18 13 ≤ M2 18 13 ∧ M2 18 13 ≤ M1 18 13 + 1) → rzO M2 94 95 8192 sX2 → lwI z g sQ (i + 1) M2 hd2 td2 ld2 sX2 → fm_X (d + 6) kd118 48 [some (fx 18), some (fx 8), some (gr a), some (fx 74), some (ti hd2), some (ti td2), some (ldV M0 x ld2), some (ti (fe M0 x)), some (ti (fe M0 x + i + 1)), y] [] (sh, M2, nx, zl) K := by
          intro M2 hd2 td2 ld2 sX2 y g1 g2 g3 g4 g5 g6 g7 g8 g9
          have F := ih (i + 1) M2 hd2 td2 ld2 sX2 y (by omega) (by omega) (lwF_t f1 g1) (by rw [g2]; exact h14) (by omega) g4 g5 g6 (by omega) g8 g9
          rw [show fe M0 x + ((i + 1 : Nat) : Int) = fe M0 x + i + 1 by omega] at F
          exact F
        have ic : i < ec M0 x := by omega
        have sX13 : ∀ (M2 : FM) (sX2 : Option (List Int)) (A : Prop), (A → sX2 = apO 8192 sX (ixB (M1 74 1 - M1 18 14) (M1 73 (M1 74 1 / 8192)) (lnm (cgE M0 M x i))) ∧ M2 18 13 = M1 18 13 + 1) → (¬ A → sX2 = sX ∧ M2 18 13 = M1 18 13) → M1 18 13 ≤ M2 18 13 ∧ M2 18 13 ≤ M1 18 13 + 1 := fun M2 sX2 A h1 h2 => by
          by_cases c2 : A
          · have := (h1 c2).2
            omega
          · have := (h2 c2).2
            omega
        rcases hI with ⟨Q, hQ1, hl, w1, d1, d2, i1, i2, i3⟩ | ⟨hl, w1⟩
        · obtain ⟨s, hs⟩ : ∃ s : LSt, s = lsS z g Q i := ⟨_, rfl⟩
          have hs1 : lsS z g Q (i + 1) = lsT z Q.length g s i := by rw [hs]; rfl
          obtain ⟨j1, j2, j3, j4, j5, j6⟩ := lsS_I z g Q i
          rw [← hs] at hl w1 d1 d2 i1 i2 j1 j2 j3 j4 j5 j6
          obtain ⟨C, hCC⟩ : ∃ C, C = lsC g s := ⟨_, rfl⟩
          have s74 : M1 74 1 = C.length := by rw [hCC]; exact w1.1.2.1
          have lC0 : C.length ≤ 65536 := by rw [hCC]; exact hl
          have lA1 := lsC_A g s
          have NI : plN M0 M M1 x i hd td ld ↔ lsN g s i := by
            unfold plN lsN
            rw [← hg, s74]
            by_cases m0 : lM s = 0
            · exact ⟨fun _ => Or.inl m0, fun _ => Or.inl (d1 m0)⟩
            · obtain ⟨x1, x2, x3⟩ := d2 m0
              rw [x1, x2, x3, ← hCC]
              constructor
              · intro q
                rcases q with q | q | q | ⟨j, q, q2⟩
                · cases q
                · exact Or.inr (Or.inl (by omega))
                · exact Or.inr (Or.inr (Or.inl (fun e => q (by omega))))
                · rw [← Option.some.inj q] at q2
                  exact Or.inr (Or.inr (Or.inr q2))
              · intro q
                rcases q with q | q | q | q
                · exact absurd q m0
                · exact Or.inr (Or.inl (by omega))
                · exact Or.inr (Or.inr (Or.inl (fun e => q (by omega))))
                · exact Or.inr (Or.inr (Or.inr ⟨_, rfl, q⟩))
          -- what a new head makes
          have eN : ptL C.length 0 (C ++ lhd 1 (g i) (enL (g i) (g i))) = C ++ lhd 1 (g i) (enL (g i) (g i)) := pt_same
          have eO : ¬ lsN g s i → ptL (lA s).length (lM s) (C ++ enL (g i) (g (lH s))) = lA s ++ lhd (lM s + 1) (g (lH s)) (lB s ++ enL (g i) (g (lH s))) := fun hN => by
            have m0 : lM s ≠ 0 := fun e => hN (Or.inl e)
            have m1 : lM s ≠ 256 := fun e => hN (Or.inr (Or.inl e))
            rw [hCC, lsC_at m0]
            exact pt_head (by omega) (by omega)
          rw [← hCC] at w1
          have w1' := w1
          rw [hzz] at w1'
          refine pl_step (k := i) (s := some C) (sX := sX) hT hz hx ha f1 ic hC hop h17 hb hhd htd hld (by omega) hX w1' (fun C1 C2 e1 e2 => ?_) (fun j C1 C2 hN ej e1 e2 => ?_) (fun hN M2 sX2 y g1 g2 g3 g4 g5 g6 g7 => ?_) (fun j hN ej M2 y g1 g2 g3 g4 g6 g7 => ?_)
          · rw [← Option.some.inj e1]
            rw [← hg, s74, Int.toNat_natCast] at e2
            by_cases fit : C.length + (lhd 1 (g i) (enL (g i) (g i))).length ≤ 65536
            · rw [apO_fit fit] at e2
              have e3 : ptL C.length 0 (C ++ lhd 1 (g i) (enL (g i) (g i))) = C2 := Option.some.inj e2
              rw [eN] at e3
              rw [← e3]
              exact ⟨by rw [List.length_append]; omega, fun i2 hi2 => clG_ap i2 (by omega)⟩
            · rw [apO_not fit] at e2
              cases e2
          · have hN2 : ¬ lsN g s i := fun q => hN (NI.2 q)
            have m0 : lM s ≠ 0 := fun e => hN2 (Or.inl e)
            obtain ⟨x1, x2, x3⟩ := d2 m0
            rw [x1] at ej
            rw [← Option.some.inj e1]
            rw [← hg, ← Option.some.inj ej, x2, x3, Int.toNat_natCast] at e2
            have sm : (lsC g s).length / 8192 = (lA s).length / 8192 := by
              by_cases q : (lsC g s).length / 8192 = (lA s).length / 8192
              · exact q
              · exact absurd (Or.inr (Or.inr (Or.inl q))) hN2
            rw [← hCC] at sm
            have lC : C.length = (lA s).length + (12 + (lB s).length) := by rw [hCC, lsC_at m0, List.length_append, lhd_len]
            by_cases fit : C.length + (enL (g i) (g (lH s))).length ≤ 65536
            · rw [apO_fit fit] at e2
              have e3 : ptL (lA s).length (lM s) (C ++ enL (g i) (g (lH s))) = C2 := Option.some.inj e2
              rw [eO hN2] at e3
              rw [← e3]
              refine ⟨by rw [List.length_append, lhd_len, List.length_append]; omega, fun i2 hi2 => ?_⟩
              rw [hCC, lsC_at m0, clG_ap i2 (by omega), clG_ap i2 (by omega)]
            · rw [apO_not fit] at e2
              cases e2
          · have hN2 := NI.1 hN
            rw [s74] at g4 g5 ⊢
            rw [← hzz, ← hg, s74, Int.toNat_natCast] at g7
            have eC := lsC_new (z := z) (q := Q.length) hN2
            rw [← hCC] at eC
            refine NXT M2 C.length 1 (some i) sX2 y g1 g2 g6 (by omega) (by omega) (fun j hj => by rw [← Option.some.inj hj]; exact ic) (sX13 M2 sX2 _ (by rw [s74]; exact g4) g5) g3 ?_
            by_cases fit : C.length + (lhd 1 (g i) (enL (g i) (g i))).length ≤ 65536
            · refine Or.inl ⟨Q, hQ1, ?_, ?_, fun m0 => ?_, fun _ => ?_, ?_, ?_, by rw [g2]; exact i3⟩
              · rw [hs1, eC, List.length_append]
                exact fit
              · rw [apO_fit fit] at g7
                have g8 : cpO M2 72 74 75 73 88 89 65552 z (some []) (some (ptL C.length 0 (C ++ lhd 1 (g i) (enL (g i) (g i))))) := g7
                rw [eN] at g8
                rw [hs1, eC]
                exact g8
              · rw [hs1, lsT_n hN2] at m0
                exact absurd m0 (by show (1 : Nat) ≠ 0; omega)
              · rw [hs1, lsT_n hN2]
                exact ⟨rfl, by rw [hCC]; rfl, rfl⟩
              · rw [hs1, lsT_n hN2]
                show M2 18 13 = ((lsX z Q.length g s i).length : Nat)
                unfold lsX
                rw [← hCC]
                by_cases q : lM s ≠ 0 ∧ C.length / 8192 ≠ (lA s).length / 8192
                · obtain ⟨x1, x2, x3⟩ := d2 q.1
                  have q2 := q.2
                  have := (g4 ⟨by rw [x1]; simp, by omega⟩).2
                  rw [if_pos q, List.length_append, this, i1]
                  rfl
                · rw [if_neg q]
                  have := (g5 (fun q2 => q ⟨fun m0 => q2.1 (d1 m0), fun e => q2.2 (by
                    have m0 : lM s ≠ 0 := fun m0 => q2.1 (d1 m0)
                    obtain ⟨x1, x2, x3⟩ := d2 m0
                    omega)⟩)).2
                  rw [this, i1]
              · rw [hs1, lsT_n hN2]
                show sX2 = some (ixL g (lsX z Q.length g s i))
                unfold lsX
                rw [← hCC]
                by_cases q : lM s ≠ 0 ∧ C.length / 8192 ≠ (lA s).length / 8192
                · obtain ⟨x1, x2, x3⟩ := d2 q.1
                  have q2 := q.2
                  have e1 := (g4 ⟨by rw [x1]; simp, by omega⟩).1
                  have l1 := ixL_len hnm (lX s) (fun p hp => by have := (j6 p hp).2.2; omega)
                  have l2 := hnm i ic
                  have cs := (w1.2.2.2 C rfl).2.1 (C.length / 8192) (Nat.le_refl _)
                  rw [if_pos q, ixL_app, e1, i2, ← hg, i3, show ((C.length : Nat) : Int) / 8192 = ((C.length / 8192 : Nat) : Int) by omega, cs, apO_fit (by rw [ixB_len]; omega)]
                · rw [if_neg q]
                  have e1 := (g5 (fun q2 => q ⟨fun m0 => q2.1 (d1 m0), fun e => q2.2 (by
                    have m0 : lM s ≠ 0 := fun m0 => q2.1 (d1 m0)
                    obtain ⟨x1, x2, x3⟩ := d2 m0
                    omega)⟩)).1
                  rw [e1, i2]
            · refine Or.inr ⟨fun Q2 hQ2 => ?_, ?_⟩
              · rw [hQ1] at hQ2
                rw [← Option.some.inj hQ2, hs1, eC, List.length_append]
                omega
              · rw [apO_not fit] at g7
                exact g7
          · have hN2 : ¬ lsN g s i := fun q => hN (NI.2 q)
            have m0 : lM s ≠ 0 := fun e => hN2 (Or.inl e)
            have m1 : lM s ≠ 256 := fun e => hN2 (Or.inr (Or.inl e))
            obtain ⟨x1, x2, x3⟩ := d2 m0
            rw [x1] at ej
            rw [← hzz, ← hg, ← Option.some.inj ej, x2, x3, Int.toNat_natCast] at g7
            rw [← Option.some.inj ej]
            have eC := lsC_old (z := z) (q := Q.length) hN2
            have lC : C.length = (lA s).length + (12 + (lB s).length) := by rw [hCC, lsC_at m0, List.length_append, lhd_len]
            refine NXT M2 hd (td + 1) (some (lH s)) sX y g1 g2 g6 hhd (by omega) (fun j hj => hld j (by rw [x1]; exact hj)) (by omega) g3 ?_
            by_cases fit : C.length + (enL (g i) (g (lH s))).length ≤ 65536
            · refine Or.inl ⟨Q, hQ1, ?_, ?_, fun m2 => ?_, fun _ => ?_, ?_, ?_, by rw [g2]; exact i3⟩
              · rw [hs1, eC, List.length_append, lhd_len, List.length_append]
                omega
              · rw [apO_fit fit] at g7
                have g8 : cpO M2 72 74 75 73 88 89 65552 z (some []) (some (ptL (lA s).length (lM s) (C ++ enL (g i) (g (lH s))))) := g7
                rw [eO hN2] at g8
                rw [hs1, eC]
                exact g8
              · rw [hs1, lsT_o hN2] at m2
                exact absurd m2 (by show lM s + 1 ≠ 0; omega)
              · rw [hs1, lsT_o hN2]
                refine ⟨rfl, x2, ?_⟩
                show td + 1 = ((lM s + 1 : Nat) : Int)
                omega
              · rw [hs1, lsT_o hN2, g4]
                exact i1
              · rw [hs1, lsT_o hN2, i2]
                rfl
            · refine Or.inr ⟨fun Q2 hQ2 => ?_, ?_⟩
              · rw [hQ1] at hQ2
                rw [← Option.some.inj hQ2, hs1, eC, List.length_append, lhd_len, List.length_append]
                omega
              · rw [apO_not fit] at g7
                exact g7
        · have s74 := w1.1.1
          have MO : ∀ Q : List Int, sQ = some Q → 65536 < (lsC g (lsS z g Q (i + 1))).length := fun Q hQ2 => by
            have h1 := hl Q hQ2
            have h2 := lsC_mono z Q.length g (lsS z g Q i) i
            have e : lsS z g Q (i + 1) = lsT z Q.length g (lsS z g Q i) i := rfl
            rw [e]
            omega
          have w1' := w1
          rw [hzz] at w1'
          refine pl_step (k := i) (s := none) (sX := sX) hT hz hx ha f1 ic hC hop h17 hb hhd htd hld (by omega) hX w1' (fun C1 C2 e1 e2 => by cases e1) (fun j C1 C2 hN ej e1 e2 => by cases e1) (fun hN M2 sX2 y g1 g2 g3 g4 g5 g6 g7 => ?_) (fun j hN ej M2 y g1 g2 g3 g4 g6 g7 => ?_)
          · rw [← hzz] at g7
            exact NXT M2 (M1 74 1) 1 (some i) sX2 y g1 g2 g6 (by omega) (by omega) (fun j hj => by rw [← Option.some.inj hj]; exact ic) (sX13 M2 sX2 _ g4 g5) g3 (Or.inr ⟨MO, g7⟩)
          · rw [← hzz] at g7
            have t256 : td ≠ 256 := fun e => hN (Or.inr (Or.inl e))
            exact NXT M2 hd (td + 1) (some j) sX y g1 g2 g6 hhd (by omega) (fun j2 hj => hld j2 (by rw [ej]; exact hj)) (by omega) g3 (Or.inr ⟨MO, g7⟩)
  refine m118 [fx 18, fx 8, gr a] ?_
  obtain ⟨P1, p1⟩ : ∃ P1 : FM, P1 = pq M 18 14 (M 74 1) := ⟨_, rfl⟩
  have po : ∀ c : Nat, c ≠ 18 → P1 c = M c := fun c hc => by rw [p1, pq_o _ _ _ hc]
  have pn : ∀ i : Int, i ≠ 14 → P1 18 i = M 18 i := fun i hi => by rw [p1, pq_ne _ _ _ _ hi]
  have p14 : P1 18 14 = M 74 1 := by rw [p1, pq_at]
  have T : (o_al 0 (o_get 4 12 12 (o_callv (d + 6) 38 0 1 (o_al 0 (o_ic 0 (o_put 4 13 13 (o_ic 0 (o_is 4 (o_ic 0 (o_is 5 (o_nul (o_as 6 (o_al 1 (o_al 2 (o_callv (d + 6) 58 1 2 (o_is 7 (o_il 7 (b118_46 (d + 6) (fW (d + 6) kd118 K) K))))))))))))))))) : FC) [some (fx 18), some (fx 8), some (gr a), some (fx 74), none, none, none, none, none, none] [] (sh, P1, nx, zl) := by
    refine clear_O (d := d + 5) (row94 sh) (fun M2 f2 w2 => ?_)
    obtain ⟨P3, p3⟩ : ∃ P3 : FM, P3 = pq M2 18 13 0 := ⟨_, rfl⟩
    have p3o : ∀ c : Nat, c ≠ 18 → P3 c = M2 c := fun c hc => by rw [p3, pq_o _ _ _ hc]
    have p3n : ∀ i : Int, i ≠ 13 → P3 18 i = M2 18 i := fun i hi => by rw [p3, pq_ne _ _ _ _ hi]
    have p313 : P3 18 13 = 0 := by rw [p3, pq_at]
    have o3 : ∀ c : Nat, c ≠ 18 → c ≠ 94 → P3 c = M c := fun c c1 c2 => by rw [p3o c c1, f2 c c2, po c c1]
    have n3 : ∀ i : Int, i ≠ 13 → i ≠ 14 → P3 18 i = M 18 i := fun i i1 i2 => by rw [p3n i i1, f2 18 (by omega), pn i i2]
    have e14 : P3 18 14 = M 74 1 := by rw [p3n 14 (by decide), f2 18 (by omega), p14]
    have lw3 : lwF M P3 := ⟨fun c hc => o3 c (by omega) (by omega), n3⟩
    have T3 : (o_ic 0 (o_is 4 (o_ic 0 (o_is 5 (o_nul (o_as 6 (o_al 1 (o_al 2 (o_callv (d + 6) 58 1 2 (o_is 7 (o_il 7 (b118_46 (d + 6) (fW (d + 6) kd118 K) K))))))))))) : FC) [some (fx 18), some (fx 8), some (gr a), some (fx 74), none, none, none, none, none, none] [] (sh, P3, nx, zl) := by
      have z3 := fzF_t hz (lwF_fz (sh := sh) lw3)
      have fx1 : fe P3 x = fe M0 x := by
        unfold fe
        rw [z3.1 168 (by omega), z3.1 183 (by omega)]
      refine first_Y (d := d + 3) (F := x) (treeR_fz hT z3) hS (by rw [z3.2.2 a 0 ha3 (by decide)]; exact hE.1) (by omega) ?_
      rw [fx1]
      have F := LOOP (ec M0 x + 1) 0 P3 0 0 none (some []) none (by omega) (by omega) lw3 e14 (by rw [o3 72 (by omega) (by omega)]; exact Int.le_refl _) (by omega) (by omega) (fun j hj => by cases hj) (by omega) (rzO_F w2 (p3o 94 (by omega)) (p3o 95 (by omega))) ?_
      · rw [show fe M0 x + ((0 : Nat) : Int) = fe M0 x by omega] at F
        exact F
      · have cQ : cpO P3 72 74 75 73 88 89 65552 z (some []) sQ := by
          rw [hzz]
          exact cpO_F hQ (o3 72 (by omega) (by omega)) (o3 74 (by omega) (by omega)) (o3 75 (by omega) (by omega)) (o3 73 (by omega) (by omega)) (o3 88 (by omega) (by omega)) (o3 89 (by omega) (by omega))
        cases hs : sQ with
        | none =>
          rw [hs] at cQ
          exact Or.inr ⟨fun Q hq => (by cases hq), cQ⟩
        | some Q =>
          rw [hs] at cQ
          have l1 : M 74 1 = Q.length := by
            rw [hs] at hQ
            exact hQ.1.2.1
          exact Or.inl ⟨Q, rfl, by show Q.length ≤ 65536; omega, cQ, fun _ => rfl, fun m0 => absurd rfl m0, p313, rfl, by rw [e14]; exact l1⟩
    rw [p3] at T3
    exact T3
  rw [p1] at T
  exact T
end CLISTING2
