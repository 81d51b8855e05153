/-! MOUNTING: the tree; the class -/
def ctB (M : FM) (n : Int) (t ho fo : Int → Int) : Prop := (∀ j : Int, 1 ≤ j → j ≤ n → M 113 j = t j ∧ (0 ≤ t j ∧ t j ≤ 300000000)) ∧ (∀ j : Int, 0 ≤ j → j ≤ n → M 114 j = ho j ∧ (0 ≤ ho j ∧ ho j ≤ n)) ∧ (∀ j : Int, 1 ≤ j → j ≤ n → M 116 j = fo j ∧ (0 ≤ fo j ∧ fo j ≤ 300000000))
theorem lsF_len {IR IS LR LS : List Int} {h pl : Int → Int} {n : Int} (hs : shR LR LS) (lr : LR.length ≤ 65536) (hA : lsA IR IS LR LS h pl n) : ∀ f : Int, 1 ≤ f → f ≤ n → kdF IR pl f = 1 → (lsF IR IS LR LS h pl f).length ≤ 65536 := by
  intro f h1 h2 h3
  obtain ⟨E, b, e, li⟩ := hA f h1 h2 h3
  have e1 : lsF IR IS LR LS h pl f = E := lsE_eq hs li
  have := wk_len _ _ _ _ li.2.1.1
  have := opP_r hs li.1
  rw [e1]
  omega
theorem ct_B {M : FM} {IR IS LR LS : List Int} {h pl : Int → Int} {n : Int} (hn : 1 ≤ n ∧ n ≤ 4096) (hs : shR LR LS) (lr : LR.length ≤ 65536) (hA : lsA IR IS LR LS h pl n) (ct : ctA n (lf LR) (kdF IR pl) (lsF IR IS LR LS h pl) n.toNat M) (h0 : M 114 0 = 0) : ctB M n (tiA (lf LR) (kdF IR pl) (lsF IR IS LR LS h pl) n.toNat) (ur (hoA (lf LR) (kdF IR pl) (lsF IR IS LR LS h pl) n.toNat) 0 0) (foA (lf LR) (kdF IR pl) (lsF IR IS LR LS h pl) n.toNat) := by
  have hl := lsF_len hs lr hA
  obtain ⟨c1, c2, -, c4⟩ := ct
  refine ⟨fun j j0 j1 => ⟨c1 j j0 j1, ?_⟩, fun j j0 j1 => ?_, fun j j0 j1 => ⟨c4 j j0 j1, ?_⟩⟩
  · have := tiA_r (lg := lf LR) hl n.toNat (by omega) j
    omega
  · by_cases e : j = 0
    · rw [e, ur_at, h0]
      omega
    · rw [ur_ne e]
      exact ⟨c2 j (by omega) j1, hoA_r n.toNat n (by omega) j⟩
  · have := foA_r (lg := lf LR) hl n.toNat (by omega) j
    omega
theorem fx_ge {T : Int} (h : 1 ≤ T ∧ T ≤ 14) : 20 ≤ fxT T ∧ (T = 1 → fxT T = 32) ∧ (T = 9 → fxT T = 56) := by
  refine ⟨?_, fun e => by rw [e]; rfl, fun e => by rw [e]; rfl⟩
  unfold fxT
  repeat' split
  all_goals omega
section CTREE
variable {d nx zl : Nat} {K : Option TV → FH → Prop} {sh : Nat → Option Shp} {M : FM} {IR IS LR LS : List Int} {B ids F n r : Int} {pl h t ho fo : Int → Int}
theorem links_Y {g : Int → Int} {N p : Int} (hI : ndC M g N B) (hp : 0 ≤ p) (hT : 1 ≤ le g p 2 ∧ le g p 2 ≤ 14) (hf : p + fxT (le g p 2) ≤ N) (k : (0 ≤ lnK g p ∧ lnK g p < 4294967296) → K (some (tj (lnK g p))) (sh, M, nx, zl)) : fm_Y (d + 2) 197 [.ref 101, .int (Int32.ofInt p)] (sh, M, nx, zl) K := by
  have fg := fx_ge hT
  have n65 := hI.1.2.2.2
  refine m197 [fx 101, ti p] ?_
  refine type_Y hI (by omega) hT ?_
  have B46 : ∀ q : Int, 0 ≤ q → q + 4 ≤ N → lnK g p = le g q 4 → b197_46 (d + 1) (fW (d + 1) kd197 K) K [some (fx 101), some (ti p), some (ti (le g p 2))] [ti q, fx 104] (sh, M, nx, zl) := by
    intro q q0 q1 e
    rw [e] at k
    refine g4i_Y hI (by omega) (fun x x1 x2 x3 => ?_)
    exact unsig_Y (y := le g q 4) x2 (by omega) (k (by omega))
  have el : lnK g p = if le g p 2 = 2 then 1 else if le g p 2 = 1 then le g (p + 20) 4 else if le g p 2 = 9 then le g (p + 40) 4 else le g (p + 16) 4 := rfl
  refine ⟨by omega, fun w => ?_, fun w => ?_⟩
  · rw [if_neg w] at el
    refine ⟨by omega, fun w1 => ?_, fun w1 => ?_⟩
    · rw [if_neg w1] at el
      refine ⟨by omega, fun w2 => ?_, fun w2 => ?_⟩
      · rw [if_neg w2] at el
        exact B46 (p + 16) (by omega) (by omega) el
      · rw [if_pos w2] at el
        exact B46 (p + 40) (by omega) (by omega) el
    · rw [if_pos w1] at el
      exact B46 (p + 20) (by omega) (by omega) el
  · rw [if_pos w] at el
    have T := k (by omega)
    rw [el] at T
    exact T
theorem reached_Y {a : Int} (hB : ctB M n t ho fo) (hn : 1 ≤ n ∧ n ≤ 4096) (ha : 0 ≤ a ∧ a ≤ n) (hr : 0 ≤ r ∧ r ≤ n) (k : ∀ z : Int, (z = 1 ∧ rcK ho r 100 a ∨ z = 0 ∧ ¬ rcK ho r 100 a) → K (some (ti z)) (sh, M, nx, zl)) : fm_Y (d + 1) 200 [.ref 100, .int (Int32.ofInt a), .int (Int32.ofInt r)] (sh, M, nx, zl) K := by
  refine m200 [fx 100, ti a, ti r] ?_
  obtain ⟨P, gP⟩ : ∃ P : Prop, P = rcK ho r 100 a := ⟨_, rfl⟩
  rw [← gP] at k
  have L : ∀ (m : Nat) (c i : Int), i = 100 - (m : Int) → m ≤ 100 → (0 ≤ c ∧ c ≤ n) → (P ↔ rcK ho r m c) → fm_X d kd200 5 [some (fx 100), some (ti a), some (ti r), some (ti c), some (ti i)] [] (sh, M, nx, zl) K := by
    intro m
    induction m with
    | zero =>
      intro c i h1 h2 h3 h4
      have e0 : rcK ho r 0 c ↔ c = r := Iff.rfl
      rw [e0] at h4
      refine s200_5 d K _ _ _ ?_
      refine ⟨by omega, fun _ => ?_, fun w => by omega⟩
      exact ⟨by omega, fun w => ⟨Or.inl rfl, k 0 (Or.inr ⟨rfl, fun q => w (h4.1 q)⟩)⟩, fun w => ⟨Or.inr rfl, k 1 (Or.inl ⟨rfl, h4.2 w⟩)⟩⟩
    | succ m ih =>
      intro c i h1 h2 h3 h4
      have e0 : rcK ho r (m + 1) c ↔ (c = r ∨ rcK ho r m (ho c)) := Iff.rfl
      rw [e0] at h4
      obtain ⟨b1, b2⟩ := hB.2.1 c h3.1 h3.2
      refine s200_5 d K _ _ _ ?_
      refine ⟨by omega, fun w => by omega, fun _ => ?_⟩
      refine ⟨by omega, fun w => ?_, fun w => ?_⟩
      · exact ⟨by omega, fun w2 => absurd w w2, fun w2 => ⟨Or.inr rfl, k 1 (Or.inl ⟨rfl, h4.2 (Or.inl w)⟩)⟩⟩
      · refine ⟨by omega, ?_⟩
        rw [b1]
        refine ih (ho c) (i + 1) (by omega) (by omega) b2 (h4.trans ⟨fun q => ?_, Or.inr⟩)
        rcases q with q | q
        · exact absurd q w
        · exact q
  exact L 100 a 0 (by omega) (by omega) ha (by rw [gP])
theorem folderHolds_Y {j : Int} (hL : ltC M IR IS LR LS B ids F n pl h) (hB : ctB M n t ho fo) (hj : 1 ≤ j ∧ j ≤ n) (hk : kdT (le (lf IR) (pl j) 2) = 1) (hr : 0 ≤ r ∧ r ≤ n) (k : ∀ z : Int, (z = 1 ∧ ((j = r → t j = 0 ∧ paF (lf IR) pl j = n + 1) ∧ (j ≠ r → t j = 1 ∧ paF (lf IR) pl j = ho j ∧ rcK ho r 100 j)) ∨ z = 0 ∧ ¬ ((j = r → t j = 0 ∧ paF (lf IR) pl j = n + 1) ∧ (j ≠ r → t j = 1 ∧ paF (lf IR) pl j = ho j ∧ rcK ho r 100 j))) → K (some (ti z)) (sh, M, nx, zl)) : fm_Y (d + 3) 198 [.ref 100, .int (Int32.ofInt j), .int (Int32.ofInt r)] (sh, M, nx, zl) K := by
  have nr := hL.1.2.1
  obtain ⟨ap, hd0⟩ := nd_ok hL.1.1.2.1.2.1 hL.2.1 hj.1 hj.2
  have ed := kd_dir hd0.2.1 hk
  have hf := hd0.2.2.1
  obtain ⟨b1, b2⟩ := hB.1 j hj.1 hj.2
  obtain ⟨b3, b4⟩ := hB.2.1 j (by omega) hj.2
  have ep : paF (lf IR) pl j = le (lf IR) (pl j + 28) 4 := rfl
  refine m198 [fx 100, ti j, ti r] ?_
  refine placeC_Y hL hj ?_
  refine m199 [fx 101, ti (pl j)] ?_
  refine g4i_Y hL.1.1 (by omega) (fun x x1 x2 x3 => ?_)
  refine unsig_Y (y := le (lf IR) (pl j + 28) 4) x2 (by omega) ?_
  rw [← ep] at x1 ⊢
  refine ⟨by omega, fun w => ?_, fun w => ?_⟩
  · have NO : ¬ (t j = 1 ∧ paF (lf IR) pl j = ho j ∧ rcK ho r 100 j) → K (some (ti 0)) (sh, M, nx, zl) := fun q => k 0 (Or.inr ⟨rfl, fun y => q (y.2 w)⟩)
    refine ⟨by omega, ?_⟩
    rw [b1]
    refine ⟨by omega, fun w1 => ⟨Or.inl rfl, NO (fun q => w1 q.1)⟩, fun w1 => ?_⟩
    refine ⟨by omega, ?_⟩
    rw [b3]
    refine ⟨by omega, ?_⟩
    refine ⟨by omega, fun w2 => ⟨Or.inl rfl, NO (fun q => w2 q.2.1)⟩, fun w2 => ?_⟩
    refine reached_Y hB nr.2 (by omega) hr (fun z hz => ?_)
    rcases hz.symm with ⟨z1, z2⟩ | ⟨z1, z2⟩
    · rw [z1]
      exact ⟨by omega, fun _ => ⟨Or.inl rfl, NO (fun q => z2 q.2.2)⟩, fun q => absurd rfl q⟩
    · rw [z1]
      exact ⟨by omega, fun q => by omega, fun _ => ⟨Or.inr rfl, k 1 (Or.inl ⟨rfl, fun q => absurd q w, fun _ => ⟨w1, w2, z2⟩⟩)⟩⟩
  · have NO : ¬ (t j = 0 ∧ paF (lf IR) pl j = n + 1) → K (some (ti 0)) (sh, M, nx, zl) := fun q => k 0 (Or.inr ⟨rfl, fun y => q (y.1 w)⟩)
    refine ⟨by omega, ?_⟩
    rw [b1]
    refine ⟨by omega, fun w1 => ⟨Or.inl rfl, NO (fun q => w1 q.1)⟩, fun w1 => ?_⟩
    refine ⟨by omega, ?_⟩
    rw [nr.1]
    refine ⟨by omega, fun w2 => ⟨Or.inl rfl, NO (fun q => w2 q.2)⟩, fun w2 => ⟨Or.inr rfl, k 1 (Or.inl ⟨rfl, fun _ => ⟨w1, w2⟩, fun q => absurd w q⟩)⟩⟩
theorem makeTree_Y (hL : ltC M IR IS LR LS B ids F n pl h) (hB : ctB M n t ho fo) (hr : 0 ≤ r ∧ r ≤ n) (k : ∀ z : Int, (z = 1 ∧ trP (lf IR) pl n r (kdF IR pl) t ho fo ∨ z = 0 ∧ ¬ trP (lf IR) pl n r (kdF IR pl) t ho fo) → K (some (ti z)) (sh, M, nx, zl)) : fm_Y (d + 4) 196 [.ref 100, .int (Int32.ofInt r)] (sh, M, nx, zl) K := by
  have nr := hL.1.2.1
  have kr : ∀ j : Int, 1 ≤ j → j ≤ n → 1 ≤ kdT (le (lf IR) (pl j) 2) ∧ kdT (le (lf IR) (pl j) 2) ≤ 7 := by
    intro j j0 j1
    obtain ⟨-, hd0⟩ := nd_ok hL.1.1.2.1.2.1 hL.2.1 j0 j1
    have := hd0.2.1
    unfold kdT
    split <;> omega
  have ek : ∀ j : Int, kdF IR pl j = kdT (le (lf IR) (pl j) 2) := fun j => rfl
  have NO : ¬ trP (lf IR) pl n r (kdF IR pl) t ho fo → K (some (ti 0)) (sh, M, nx, zl) := fun q => k 0 (Or.inr ⟨rfl, q⟩)
  refine m196 [fx 100, ti r] ?_
  refine ⟨by omega, fun w => ⟨Or.inl rfl, NO (fun q => q.1.1 w)⟩, fun w => ?_⟩
  refine kindOf_Y hL (by omega) ?_
  have krr := kr r (by omega) (by omega)
  refine ⟨by omega, fun w1 => ?_, fun w1 => ⟨Or.inl rfl, NO (fun q => w1 q.1.2)⟩⟩
  have L : ∀ (G : Nat) (j : Int) (y3 y4 : Option TV), (n + 1 - j).toNat < G → 1 ≤ j → j ≤ n + 1 → (∀ i : Int, 1 ≤ i → i < j → tdP (lf IR) pl n r (kdF IR pl) t ho fo i) → fm_X (d + 3) kd196 20 [some (fx 100), some (ti r), some (ti j), y3, y4] [] (sh, M, nx, zl) K := by
    intro G
    induction G with
    | zero => intro j y3 y4 q; omega
    | succ G ih =>
      intro j y3 y4 q1 q2 q3 ok
      refine s196_20 (d + 3) K _ _ _ ?_
      refine ⟨by omega, fun w2 => ⟨Or.inr rfl, k 1 (Or.inl ⟨rfl, ⟨w, w1⟩, fun i i0 i1 => ok i i0 (by omega)⟩)⟩, fun w2 => ?_⟩
      have krj := kr j (by omega) (by omega)
      obtain ⟨ap, hd0⟩ := nd_ok hL.1.1.2.1.2.1 hL.2.1 (show 1 ≤ j by omega) (show j ≤ n by omega)
      have hf := hd0.2.2.1
      obtain ⟨b1, b2⟩ := hB.1 j (by omega) (by omega)
      obtain ⟨b5, b6⟩ := hB.2.2 j (by omega) (by omega)
      have NOj : ¬ tdP (lf IR) pl n r (kdF IR pl) t ho fo j → K (some (ti 0)) (sh, M, nx, zl) := fun q => NO (fun y => q (y.2 j (by omega) (by omega)))
      have GO : ∀ (y3 y4 : Option TV), tdP (lf IR) pl n r (kdF IR pl) t ho fo j → fm_X (d + 3) kd196 20 [some (fx 100), some (ti r), some (ti (j + 1)), y3, y4] [] (sh, M, nx, zl) K := by
        intro y3 y4 q
        refine ih (j + 1) y3 y4 (by omega) (by omega) (by omega) (fun i i0 i1 => ?_)
        by_cases c : i < j
        · exact ok i i0 c
        · rw [show i = j by omega]
          exact q
      refine kindOf_Y hL (by omega) ?_
      refine ⟨by omega, fun w3 => ?_, fun w3 => ?_⟩
      · have w3' : kdF IR pl j ≠ 1 := w3
        refine ⟨by omega, fun _ => ?_, fun q => absurd rfl q⟩
        refine ⟨by omega, ?_⟩
        rw [b1]
        refine placeC_Y hL (by omega) ?_
        refine links_Y hL.1.1 ap.1 hd0.2.1 hf (fun lk => ?_)
        refine ⟨by omega, ?_⟩
        refine ⟨by omega, fun w4 => ?_, fun w4 => ⟨Or.inl rfl, NOj (fun q => ?_)⟩⟩
        · refine ⟨by omega, fun _ => ?_, fun q => absurd rfl q⟩
          refine ⟨by omega, ?_⟩
          rw [b1]
          refine ⟨by omega, fun w5 => GO _ _ ⟨?_, fun q => absurd q w3', fun q => absurd q w3', fun _ => w5⟩, fun w5 => ⟨Or.inl rfl, NOj (fun q => q.2.2.2 w3' w5)⟩⟩
          rw [if_neg w3']
          exact w4
        · have := q.1
          rw [if_neg w3'] at this
          exact w4 this
      · have w3' : kdF IR pl j = 1 := w3
        refine ⟨by omega, fun q => by omega, fun _ => ?_⟩
        refine ⟨by omega, ?_⟩
        rw [b5]
        refine placeC_Y hL (by omega) ?_
        refine links_Y hL.1.1 ap.1 hd0.2.1 hf (fun lk => ?_)
        refine ⟨by omega, ?_⟩
        refine ⟨by omega, fun w4 => ?_, fun w4 => ⟨Or.inl rfl, NOj (fun q => ?_)⟩⟩
        · refine ⟨by omega, fun q => by omega, fun _ => ?_⟩
          refine folderHolds_Y hL hB (by omega) w3 hr (fun z hz => ?_)
          rcases hz.symm with ⟨z1, z2⟩ | ⟨z1, z2⟩
          · rw [z1]
            exact ⟨by omega, fun q => absurd rfl q, fun _ => ⟨Or.inl rfl, NOj (fun q => z2 ⟨q.2.1 w3', q.2.2.1 w3'⟩)⟩⟩
          · rw [z1]
            refine ⟨by omega, fun _ => GO _ _ ⟨?_, fun _ => z2.1, fun _ => z2.2, fun q => absurd w3' q⟩, fun q => by omega⟩
            rw [if_pos w3']
            exact w4
        · have := q.1
          rw [if_pos w3'] at this
          exact w4 this
  exact L _ 1 _ _ (Nat.lt_succ_self _) (by omega) (by omega) (fun i i0 i1 => by omega)
end CTREE
