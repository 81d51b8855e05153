/-! QUERIES: target; out filled -/
theorem lk_ok {g : Int → Int} {N B ids F n j : Int} {pl h : Int → Int} (hB : 4096 ≤ B) (hv : inV g N B ids F n pl h) (h1 : 1 ≤ j) (h2 : j ≤ n) (k : kdT (le g (pl j) 2) = 3) : (1 ≤ le g (pl j + 20) 4 ∧ le g (pl j + 20) 4 ≤ 16384) ∧ 0 ≤ pl j ∧ pl j + 24 + le g (pl j + 20) 4 ≤ N := by
  obtain ⟨a, b, c, e⟩ := hv.1 j h1 h2
  rcases iE_r (g := g) (N := N) (ids := ids) (F := F) hB a with z | z
  · omega
  · have eb : bodE g N B F (pl j) = if kdT (le g (pl j) 2) = 1 then dirE g N (pl j) else if kdT (le g (pl j) 2) = 2 then filE g N B F (pl j) else if kdT (le g (pl j) 2) = 3 then lnkE g N (pl j) else othE g (pl j) := rfl
    rw [if_neg (by omega), if_neg (by omega), if_pos k] at eb
    have ne : lnkE g N (pl j) ≠ -1 := by omega
    unfold lnkE at ne
    split at ne
    · rename_i c1
      refine ⟨c1, a, ?_⟩
      split at ne
      · split at ne
        · assumption
        · exact absurd rfl ne
      · split at ne
        · rename_i c2
          omega
        · exact absurd rfl ne
    · exact absurd rfl ne
section OUTC
variable {d nx zl : Nat} {K : Option TV → FH → Prop} {sh : Nat → Option Shp} {M : FM}
theorem clear6_Y (k : ∀ M2 : FM, (∀ c : Nat, c ≠ 6 → M2 c = M c) → M2 6 1 = 0 → K none (sh, M2, nx, zl)) : fm_Y (d + 1) 38 [.ref 6] (sh, M, nx, zl) K := by
  refine m38 [fx 6] ?_
  refine ⟨Or.inl rfl, ?_⟩
  have T := k (pq (pq M 6 1 0) 6 2 0) (fun c hc => by rw [pq_o _ _ _ hc, pq_o _ _ _ hc]) (by rw [pq_ne _ _ _ _ (by omega), pq_at])
  exact T
theorem put6_Y {c nc : Nat} {p n : Int} (hc : shp sh c = some (.inl (.byte, nc))) (hnc : nc ≤ 2147483647) (h6 : c ≠ 6) (h7 : c ≠ 7) (h0 : 0 ≤ M 6 1) (hp : 0 ≤ p) (hn : 0 ≤ n) (h1 : p + n ≤ nc) (h2 : M 6 1 + n ≤ 16384) (k : ∀ M2 : FM, (∀ x : Nat, x ≠ 6 → x ≠ 7 → M2 x = M x) → M2 6 1 = M 6 1 + n → (∀ i : Int, 0 ≤ i → i < n → M2 7 (M 6 1 + i) = M c (p + i)) → (∀ i : Int, i < M 6 1 → M2 7 i = M 7 i) → K none (sh, M2, nx, zl)) : fm_Y (d + 1) 35 [.ref 6, .ref c, .int (Int32.ofInt p), .int (Int32.ofInt n)] (sh, M, nx, zl) K := by
  refine putAll_M (rowS_6 sh) hc hnc h6 h7 h0 hp hn h1 h2 ?_
  refine k _ (fun x x1 x2 => rowW_o x1 x2) (rowW_1 _ _ _ _ _ _) (fun i i0 i1 => ?_) (fun i i0 => ?_)
  · rw [rowW_b (by decide)]
    unfold cpf
    rw [if_pos (by omega), show p + (M 6 1 + i - M 6 1) = p + i by omega]
  · rw [rowW_b (by decide)]
    unfold cpf
    rw [if_neg (by omega)]
variable {IR IS LR LS : List Int} {B ids F n : Int} {pl h : Int → Int}
theorem copyTarget_Y {j : Int} (hL : ltC M IR IS LR LS B ids F n pl h) (hj : 1 ≤ j ∧ j ≤ n) (hk : kdT (le (lf IR) (pl j) 2) = 3) (k : ∀ M2 : FM, (∀ x : Nat, x ≠ 6 → x ≠ 7 → M2 x = M x) → M2 6 1 = le (lf IR) (pl j + 20) 4 → (∀ i : Int, 0 ≤ i → i < le (lf IR) (pl j + 20) 4 → M2 7 i % 256 = lf IR (pl j + 24 + i) % 256) → K none (sh, M2, nx, zl)) : fm_Y (d + 3) 214 [.ref 101, .int (Int32.ofInt j), .ref 6] (sh, M, nx, zl) K := by
  have nr := hL.1.2.1
  have hB := hL.1.1.2.1
  have n65 := hL.1.1.1.2.2.2
  obtain ⟨l1, l2, l3⟩ := lk_ok hB.2.1 hL.2.1 hj.1 hj.2 hk
  have ag := hL.1.1.1.2.1
  refine m214 [fx 101, ti j, fx 6] ?_
  refine ⟨by omega, ?_⟩
  rw [hL.1.2.2.1 j hj.1 hj.2]
  refine clear6_Y (fun M1 F1 s1 => ?_)
  have hL1 := ltC_to hL (M2 := M1) (fun c hc => F1 c (by omega))
  refine targetSize_Y hL1.1.1 (by omega) (fun _ => ?_)
  refine put6_Y (c := 105) (nc := 65536) rfl (by omega) (by omega) (by omega) (by omega) (by omega) (by omega) (by omega) (by omega) (fun M2 F2 s2 b2 _ => ?_)
  refine k M2 (fun x x1 x2 => (F2 x x1 x2).trans (F1 x x1)) (by rw [s2]; omega) (fun i i0 i1 => ?_)
  have e := b2 i i0 i1
  rw [s1, Int.zero_add] at e
  rw [e, F1 105 (by omega)]
  exact ag _ (by omega) (by omega)
theorem mtarget_Y {M0 : FM} {j : Int} (hi : -2147483648 ≤ j ∧ j ≤ 2147483647) (hV : VV KC WW M0) (e91 : M 168 91 = M0 168 91) (e92 : M 168 92 = M0 168 92) (h8 : inq M0 j → mlC M IR IS LR LS B ids F n pl h ∧ j ≤ n)
    (k0 : ¬ (inq M0 j ∧ kdT (le (lf IR) (pl j) 2) = 3) → K (some (ti (-1))) (sh, M, nx, zl))
    (k1 : inq M0 j → kdT (le (lf IR) (pl j) 2) = 3 → ∀ M2 : FM, (∀ c : Nat, c ≠ 168 → c ≠ 170 → M2 c = M c) → (∀ i : Int, i ≠ 4 → M2 168 i = M 168 i) → M2 168 4 = le (lf IR) (pl j + 20) 4 → (∀ i : Int, 0 ≤ i → i < le (lf IR) (pl j + 20) 4 → M2 170 i % 256 = lf IR (pl j + 24 + i) % 256) → K (some (ti (le (lf IR) (pl j + 20) 4))) (sh, M2, nx, zl)) : fm_Y (d + 6) 396 [.ref 168, .int (Int32.ofInt j)] (sh, M, nx, zl) K := by
  refine m396 [fx 168, ti j] ?_
  refine isInode_Y hi hV e91 e92 (fun z hz => ?_)
  rcases hz.symm with ⟨z1, z2⟩ | ⟨z1, z2⟩
  · rw [z1]
    exact ⟨by omega, fun _ => k0 (fun q => z2 q.1), fun q => absurd rfl q⟩
  rw [z1]
  obtain ⟨hL, jn⟩ := h8 z2
  have j1 := z2.2.1
  have hB := hL.1.1.2.1
  have n65 := hL.1.1.1.2.2.2
  have hv := hL.2.1
  have ag := hL.1.1.1.2.1
  obtain ⟨ap, hd0⟩ := nd_ok hB.2.1 hv j1 jn
  have hT := hd0.2.1
  have h16 := hd0.1
  have kr : 1 ≤ kdT (le (lf IR) (pl j) 2) ∧ kdT (le (lf IR) (pl j) 2) ≤ 7 := by
    unfold kdT
    split <;> omega
  refine ⟨by omega, fun q => by omega, fun _ => ?_⟩
  refine whereIs_Y hL ⟨j1, jn⟩ ?_
  refine kindAt_Y hL.1.1 (by omega) hT ?_
  refine ⟨by omega, fun w => ?_, fun w => k0 (fun q => w q.2)⟩
  obtain ⟨l1, l2, l3⟩ := lk_ok hB.2.1 hv j1 jn w
  refine whereIs_Y hL ⟨j1, jn⟩ ?_
  refine v4_Y (pl j + 20) hL.1.1 rfl (by omega) (fun _ => ?_)
  have kk := k1 z2 w
  obtain ⟨sz, gz⟩ : ∃ sz : Int, sz = le (lf IR) (pl j + 20) 4 := ⟨_, rfl⟩
  rw [← gz] at l1 l3 kk ⊢
  obtain ⟨P, gP⟩ : ∃ P : FM, P = pq M 168 4 sz := ⟨_, rfl⟩
  have pm : ∀ i : Int, i ≠ 4 → P 168 i = M 168 i := fun i hi => by rw [gP, pq_ne _ _ _ _ hi]
  have p4 : P 168 4 = sz := by rw [gP, pq_at]
  have po : ∀ c : Nat, c ≠ 168 → P c = M c := fun c hc => by rw [gP, pq_o _ _ _ hc]
  have TL : (o_ic 0 (o_is 2 (fW (d + 5) kd396 K 43)) : FC) [some (fx 168), some (ti j), none] [] (sh, P, nx, zl) := by
    have L : ∀ (G : Nat) (i : Int) (M1 : FM), (sz - i).toNat < G → 0 ≤ i → i ≤ sz → (∀ c : Nat, c ≠ 170 → M1 c = P c) → (∀ q : Int, 0 ≤ q → q < i → M1 170 q % 256 = lf IR (pl j + 24 + q) % 256) → fm_X (d + 5) kd396 43 [some (fx 168), some (ti j), some (ti i)] [] (sh, M1, nx, zl) K := by
      intro G
      induction G with
      | zero => intro i M1 q; omega
      | succ G ih =>
        intro i M1 q1 q2 q3 F1 hq
        have e4 : M1 168 4 = sz := by rw [F1 168 (by omega)]; exact p4
        refine s396_43 (d + 5) K _ _ _ ?_
        refine ⟨by omega, fun w2 => ?_, fun w2 => ?_⟩
        · have T := kk M1 (fun c c1 c2 => (F1 c c2).trans (po c c1)) (fun i hi => by rw [F1 168 (by omega)]; exact pm i hi) e4 (fun q q0 q1 => hq q q0 (by omega))
          rw [← e4] at T
          exact T
        · have hL1 := mlC_x hL (M2 := M1) (fun c hc => (F1 c (by omega)).trans (po c (by omega))) (fun i hi => by rw [F1 168 (by omega)]; exact pm i (by omega))
          refine whereIs_Y hL1 ⟨j1, jn⟩ ?_
          refine ⟨by omega, ?_⟩
          refine ⟨by omega, ?_⟩
          obtain ⟨R, gR⟩ : ∃ R : FM, R = pq M1 170 i ((M1 241 (pl j + 24 + i) + 128) % 256 - 128) := ⟨_, rfl⟩
          have T : fm_X (d + 5) kd396 43 [some (fx 168), some (ti j), some (ti (i + 1))] [] (sh, R, nx, zl) K := by
            refine ih (i + 1) R (by omega) (by omega) (by omega) (fun c hc => by rw [gR, pq_o _ _ _ hc]; exact F1 c hc) (fun q q0 q1 => ?_)
            by_cases c : q = i
            · rw [c, gR, pq_at, F1 241 (by omega), po 241 (by omega)]
              have := ag (pl j + 24 + i) (by omega) (by omega)
              omega
            · rw [gR, pq_ne _ _ _ _ c]
              exact hq q q0 (by omega)
          rw [gR] at T
          exact T
    exact L _ 0 P (Nat.lt_succ_self _) (by omega) (by omega) (fun c _ => rfl) (fun q q0 q1 => by omega)
  rw [gP] at TL
  exact TL
end OUTC
section CTARGET
variable {L d : Nat} {xs : Nat → Int32}
theorem call_target {j : Int} (hj : -2147483648 ≤ j ∧ j ≤ 2147483647) : ca_I (VV KC WW) L xs (d + 7) 232 396 [.int (Int32.ofInt j)] := by
  intro k H hR
  obtain ⟨sh, M, nx, zl⟩ := H
  have hV : VV KC WW M := hR.2.2.2.2
  have hO : outR M := hR.2.2.1
  obtain ⟨f, gf⟩ : ∃ f : Int → Int, f = M 211 := ⟨_, rfl⟩
  obtain ⟨s, gs⟩ : ∃ s : Int, s = M 168 59 := ⟨_, rfl⟩
  have W : inq M j → mtC M f s ∧ mtM M f s ∧ (1 ≤ j ∧ j ≤ le f 4 4) := by
    intro q
    obtain ⟨-, w2, w3⟩ := hV.2.2.2.1 q.1
    rw [← gf, ← gs] at w2 w3
    have n2 := w3.1.1.1.2.1
    have q2 := q.2
    exact ⟨w2, w3, by omega⟩
  have BAD : ¬ (inq M j ∧ kdT (le (lf (rwR (qI f))) (plf f j) 2) = 3) → ∃ x : Int, (some (ti (-1)) : Option TV) = some (ti x) ∧ (sh 0 = sh 0 ∧ M 0 = M 0) ∧ fm_Y (d + 7) 396 [.ref 168, .int (Int32.ofInt j)] (sh, M, nx, zl) (fun w2 H2 => w2 = some (ti x) ∧ RR (VV KC WW) L xs (k + 1) H2) := by
    intro no
    refine ⟨-1, rfl, ⟨rfl, rfl⟩, ?_⟩
    exact mtarget_Y (d := d + 1) hj hV rfl rfl (fun q => ⟨(W q).2.1.1.1, (W q).2.2.2⟩) (fun _ => ⟨rfl, RR_next hR⟩) (fun q1 q2 => absurd ⟨q1, q2⟩ no)
  refine m232 [fx 3, ti j] ?_
  refine has_Y hj hV (fun z hz => ?_)
  rcases hz.symm with ⟨z1, z2⟩ | ⟨z1, z2⟩
  · rw [z1]
    exact ⟨by omega, fun _ => BAD (fun q => z2 q.1), fun q => absurd rfl q⟩
  rw [z1]
  obtain ⟨w2, w3, jr⟩ := W z2
  obtain ⟨-, hd0⟩ := nd_ok w2.1.1.1.1.2.1.2.1 w2.1.1.2.1 jr.1 jr.2
  have hT := hd0.2.1
  have kr : 1 ≤ kdT (le (lf (rwR (qI f))) (plf f j) 2) ∧ kdT (le (lf (rwR (qI f))) (plf f j) 2) ≤ 7 := by
    unfold kdT
    split <;> omega
  refine ⟨by omega, fun q => by omega, fun _ => ?_⟩
  refine kindOf_Y w2.1.1 jr ?_
  refine ⟨by omega, fun w => ?_, fun w => BAD (fun q => w q.2)⟩
  obtain ⟨l1, -⟩ := lk_ok w2.1.1.1.1.2.1.2.1 w2.1.1.2.1 jr.1 jr.2 w
  refine copyTarget_Y w2.1.1 jr w (fun M1 F1 s1 b1 => ?_)
  refine ⟨M1 6 1, rfl, ⟨rfl, F1 0 (by omega) (by omega)⟩, ?_⟩
  have e168 : M1 168 = M 168 := F1 168 (by omega) (by omega)
  have w31 := mlC_x w3.1.1 (M2 := M1) (fun c hc => F1 c (by omega) (by omega)) (fun i _ => by rw [e168])
  refine mtarget_Y (d := d + 1) hj hV (by rw [e168]) (by rw [e168]) (fun q => ⟨w31, jr.2⟩) (fun no => absurd ⟨z2, w⟩ no) (fun q1 q2 M2 F2 G2 s2 b2 => ⟨by rw [s1], ?_⟩)
  have FF : ∀ c : Nat, c ≠ 6 → c ≠ 7 → c ≠ 168 → c ≠ 170 → M2 c = M c := fun c c1 c2 c3 c4 => (F2 c c3 c4).trans (F1 c c1 c2)
  have GG : ∀ i : Int, i ≠ 4 → M2 168 i = M 168 i := fun i hi => (G2 i hi).trans (by rw [e168])
  refine RR_q hR (fun c hc => FF c (by omega) (by omega) (by omega) (by omega)) (fun i _ hi => GG i hi) (FF 3 (by omega) (by omega) (by omega) (by omega)) ⟨fun c hc => FF c (by omega) (by omega) (by omega) (by omega), fun i hi => GG i (by omega)⟩ ⟨?_, ?_, ?_⟩
  · rw [s2]
    omega
  · rw [F2 6 (by omega) (by omega), s1, s2]
  · rw [F2 7 (by omega) (by omega), s2]
    refine sl_congr _ _ _ (fun i hi => ?_)
    rw [Int.zero_add, b1 _ (by omega) (by omega), b2 _ (by omega) (by omega)]
end CTARGET
