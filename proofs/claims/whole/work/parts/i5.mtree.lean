/-! MOUNTING: the tree; the reference -/
def mtF (M M2 : FM) : Prop := (∀ c : Nat, c ≠ 168 → c ≠ 261 → c ≠ 262 → M2 c = M c) ∧ ∀ i : Int, (i < 111 ∨ 119 < i) → M2 168 i = M 168 i
theorem mt_refl (M : FM) : mtF M M := ⟨fun _ _ _ _ => rfl, fun _ _ => rfl⟩
theorem mt_trans {M M2 M3 : FM} (h : mtF M M2) (h2 : mtF M2 M3) : mtF M M3 := ⟨fun c a b e => (h2.1 c a b e).trans (h.1 c a b e), fun i hi => (h2.2 i hi).trans (h.2 i hi)⟩
theorem mt_mo {M M2 M3 : FM} (h : mtF M M2) (h2 : moF M2 M3) : mtF M M3 := ⟨fun c a b e => (h2.1 c a).trans (h.1 c a b e), fun i hi => (h2.2 i (by omega)).trans (h.2 i hi)⟩
theorem mt_put (M : FM) {i : Int} (x : Int) (hi : 111 ≤ i ∧ i ≤ 119) : mtF M (pq M 168 i x) := ⟨fun c hc _ _ => pq_o _ _ _ hc, fun j hj => pq_ne _ _ _ _ (by omega)⟩
theorem mt_cell {M M2 : FM} {c : Nat} (i x : Int) (h : mtF M M2) (hc : c = 261 ∨ c = 262) : mtF M (pq M2 c i x) := ⟨fun y y1 y2 y3 => (pq_o _ _ _ (by omega)).trans (h.1 y y1 y2 y3), fun j hj => by rw [pq_o _ _ _ (by omega)]; exact h.2 j hj⟩
theorem mlC_tt {M M2 : FM} {IR IS LR LS : List Int} {B ids F n : Int} {pl h : Int → Int} (hL : mlC M IR IS LR LS B ids F n pl h) (e : mtF M M2) : mlC M2 IR IS LR LS B ids F n pl h := by
  obtain ⟨e1, e2⟩ := e
  obtain ⟨⟨⟨a1, a2, a3, a4⟩, a5, a6, a7⟩, b, c, f⟩ := hL
  unfold mlC ndM
  rw [e1 238 (by omega) (by omega) (by omega), e1 239 (by omega) (by omega) (by omega), e1 241 (by omega) (by omega) (by omega), e1 242 (by omega) (by omega) (by omega), e1 243 (by omega) (by omega) (by omega), e1 244 (by omega) (by omega) (by omega), e1 245 (by omega) (by omega) (by omega), e1 259 (by omega) (by omega) (by omega), e1 260 (by omega) (by omega) (by omega), e2 92 (by omega), e2 93 (by omega), e2 94 (by omega), e2 95 (by omega)]
  exact ⟨⟨⟨a1, a2, a3, a4⟩, a5, a6, a7⟩, b, c, f⟩
theorem hm_0 {S : Int → Int → Prop} {t ho : Int → Int} (h : hmI S t ho) (hS : ∀ f c : Int, S f c → 1 ≤ c) : hmI S t (ur ho 0 0) := by
  intro j
  obtain ⟨h1, h2, h3, h4⟩ := h j
  by_cases e : j = 0
  · refine ⟨h1, h2, fun q => ?_, fun q f hf => ?_⟩
    · have := hS _ _ (h3 q)
      omega
    · have := hS _ _ hf
      omega
  · rw [ur_ne e]
    exact ⟨h1, h2, h3, h4⟩
def inQ (r : Int) (kd t : Int → Int) (j : Int) : Prop := if j = r then t j = 0 else if kd j = 1 then t j = 1 else 0 < t j
section MTREE
variable {d nx zl : Nat} {K : Option TV → FH → Prop} {sh : Nat → Option Shp} {M : FM} {IR IS LR LS : List Int} {B ids F n r : Int} {pl h t ho fo : Int → Int}
theorem parentOf_Y {j : Int} (hL : mlC M IR IS LR LS B ids F n pl h) (hj : 1 ≤ j ∧ j ≤ n) (hk : kdT (le (lf IR) (pl j) 2) = 1) (k : (0 ≤ paF (lf IR) pl j ∧ paF (lf IR) pl j < 4294967296) → K (some (tj (paF (lf IR) pl j))) (sh, M, nx, zl)) : fm_Y (d + 3) 366 [.ref 168, .int (Int32.ofInt j)] (sh, M, nx, zl) K := by
  obtain ⟨ap, hd0⟩ := nd_ok hL.1.1.2.1.2.1 hL.2.1 hj.1 hj.2
  have ed := kd_dir hd0.2.1 hk
  have hf := hd0.2.2.1
  refine m366 [fx 168, ti j] ?_
  refine whereIs_Y hL hj ?_
  exact v4_Y (pl j + 28) hL.1.1 rfl (by omega) (fun l => k l)
theorem linksOf_Y {j : Int} (hL : mlC M IR IS LR LS B ids F n pl h) (hj : 1 ≤ j ∧ j ≤ n) (k : (0 ≤ lnK (lf IR) (pl j) ∧ lnK (lf IR) (pl j) < 4294967296) → K (some (tj (lnK (lf IR) (pl j)))) (sh, M, nx, zl)) : fm_Y (d + 4) 367 [.ref 168, .int (Int32.ofInt j)] (sh, M, nx, zl) K := by
  obtain ⟨ap, hd0⟩ := nd_ok hL.1.1.2.1.2.1 hL.2.1 hj.1 hj.2
  have hf := hd0.2.2.1
  have hT := hd0.2.1
  have fg := fx_ge hT
  have el : lnK (lf IR) (pl j) = if le (lf IR) (pl j) 2 = 2 then 1 else if le (lf IR) (pl j) 2 = 1 then le (lf IR) (pl j + 20) 4 else if le (lf IR) (pl j) 2 = 9 then le (lf IR) (pl j + 40) 4 else le (lf IR) (pl j + 16) 4 := rfl
  refine m367 [fx 168, ti j] ?_
  refine whereIs_Y hL hj ?_
  refine whereIs_Y hL hj ?_
  refine typeAt_Y hL.1.1 (by omega) (fun l => ?_)
  refine ⟨by omega, fun c => ?_, fun c1 => ⟨fun c => ?_, fun c2 => ⟨fun c => ?_, fun c9 => ?_⟩⟩⟩
  · replace c : le (lf IR) (pl j) 2 = 1 := c
    rw [if_neg (by omega), if_pos c] at el
    rw [el] at k
    exact v4_Y (pl j + 20) hL.1.1 (by omega) (by omega) (fun l => k l)
  · clear c1
    replace c : le (lf IR) (pl j) 2 = 2 := c
    rw [if_pos c] at el
    rw [el] at k
    exact k (by omega)
  · clear c1 c2
    replace c : le (lf IR) (pl j) 2 = 9 := c
    rw [if_neg (by omega), if_neg (by omega), if_pos c] at el
    rw [el] at k
    exact v4_Y (pl j + 40) hL.1.1 (by omega) (by omega) (fun l => k l)
  · replace c1 : le (lf IR) (pl j) 2 ≠ 1 := c1
    replace c2 : le (lf IR) (pl j) 2 ≠ 2 := c2
    replace c9 : le (lf IR) (pl j) 2 ≠ 9 := c9
    rw [if_neg c2, if_neg c1, if_neg c9] at el
    rw [el] at k
    exact v4_Y (pl j + 16) hL.1.1 rfl (by omega) (fun l => k l)
theorem mreached_Y {j : Int} (hL : mlC M IR IS LR LS B ids F n pl h) (hj : 1 ≤ j ∧ j ≤ n) (h19 : M 168 119 = r) (hr : 0 ≤ r ∧ r ≤ n) (k : ∀ z : Int, (z = 1 ∧ rcR (paF (lf IR) pl) (kdF IR pl) n r 100 j ∨ z = 0 ∧ ¬ rcR (paF (lf IR) pl) (kdF IR pl) n r 100 j) → K (some (ti z)) (sh, M, nx, zl)) : fm_Y (d + 6) 368 [.ref 168, .int (Int32.ofInt j)] (sh, M, nx, zl) K := by
  have nr := hL.1.2.1
  refine m368 [fx 168, ti j] ?_
  obtain ⟨P, gP⟩ : ∃ P : Prop, P = rcR (paF (lf IR) pl) (kdF IR pl) n r 100 j := ⟨_, rfl⟩
  rw [← gP] at k
  have L : ∀ (m : Nat) (c i : Int), i = 100 - (m : Int) → m ≤ 100 → (0 ≤ c ∧ c < 4294967296) → (P ↔ rcR (paF (lf IR) pl) (kdF IR pl) n r m c) → fm_X (d + 5) kd368 6 [some (fx 168), some (ti j), some (tj c), none, some (ti i)] [] (sh, M, nx, zl) K := by
    intro m
    induction m with
    | zero =>
      intro c i h1 h2 h3 h4
      have e0 : rcR (paF (lf IR) pl) (kdF IR pl) n r 0 c ↔ c = r := Iff.rfl
      rw [e0] at h4
      refine s368_6 (d + 5) K _ _ _ ?_
      refine ⟨by omega, fun _ => ?_, fun w => by omega⟩
      refine ⟨by omega, ?_⟩
      exact ⟨by omega, fun w => ⟨Or.inl rfl, k 0 (Or.inr ⟨rfl, fun q => by have := h4.1 q; omega⟩)⟩, fun w => ⟨Or.inr rfl, k 1 (Or.inl ⟨rfl, h4.2 (by omega)⟩)⟩⟩
    | succ m ih =>
      intro c i h1 h2 h3 h4
      have e0 : rcR (paF (lf IR) pl) (kdF IR pl) n r (m + 1) c ↔ (c = r ∨ ((1 ≤ c ∧ c ≤ n ∧ kdF IR pl c = 1) ∧ rcR (paF (lf IR) pl) (kdF IR pl) n r m (paF (lf IR) pl c))) := Iff.rfl
      rw [e0] at h4
      refine s368_6 (d + 5) K _ _ _ ?_
      refine ⟨by omega, fun w => by omega, fun _ => ?_⟩
      refine ⟨by omega, ?_⟩
      refine ⟨by omega, fun w => ?_, fun w => ?_⟩
      · refine ⟨by omega, ?_⟩
        exact ⟨by omega, fun w2 => by omega, fun w2 => ⟨Or.inr rfl, k 1 (Or.inl ⟨rfl, h4.2 (Or.inl (by omega))⟩)⟩⟩
      have ne : c ≠ r := by omega
      have NO : ¬ (1 ≤ c ∧ c ≤ n ∧ kdF IR pl c = 1) → K (some (ti 0)) (sh, M, nx, zl) := fun q => k 0 (Or.inr ⟨rfl, fun y => by
        rcases h4.1 y with z | z
        · exact ne z
        · exact q z.1⟩)
      refine ⟨by omega, fun w1 => ⟨Or.inl rfl, NO (by omega)⟩, fun w1 => ?_⟩
      refine ⟨by omega, ?_⟩
      refine ⟨by omega, fun w2 => ⟨Or.inl rfl, NO (by omega)⟩, fun w2 => ?_⟩
      refine isDirectory_Y hL (by omega) (fun z hz => ?_)
      rcases hz.symm with ⟨z1, z2⟩ | ⟨z1, z2⟩
      · rw [z1]
        exact ⟨by omega, fun q => absurd rfl q, fun _ => ⟨Or.inl rfl, NO (fun q => z2 q.2.2)⟩⟩
      · rw [z1]
        refine ⟨by omega, fun _ => ?_, fun q => by omega⟩
        refine parentOf_Y hL (by omega) z2 (fun pr => ?_)
        refine ih (paF (lf IR) pl c) (i + 1) (by omega) (by omega) pr (h4.trans ⟨fun q => ?_, fun q => Or.inr ⟨⟨by omega, by omega, z2⟩, q⟩⟩)
        rcases q with q | q
        · exact absurd q ne
        · exact q.2
  exact ⟨by omega, L 100 j 0 (by omega) (by omega) (by omega) (by rw [gP])⟩
theorem isTree_Y (hL : mlC M IR IS LR LS B ids F n pl h) (hA : lsA IR IS LR LS h pl n) (hrt : -9223372036854775808 ≤ M 168 96 ∧ M 168 96 ≤ 9223372036854775807)
    (k : ∀ (M2 : FM) (z r : Int), mtF M M2 → nbR IR IS h (M 168 96 % 18446744073709551616 / 65536) (M 168 96 % 65536) r → M2 168 119 = r → (z = 1 ∧ trP (lf IR) pl n r (kdF IR pl) (tiA (lf LR) (kdF IR pl) (lsF IR IS LR LS h pl) n.toNat) (ur (hoA (lf LR) (kdF IR pl) (lsF IR IS LR LS h pl) n.toNat) 0 0) (foA (lf LR) (kdF IR pl) (lsF IR IS LR LS h pl) n.toNat) ∨ z = 0 ∧ ¬ trP (lf IR) pl n r (kdF IR pl) (tiA (lf LR) (kdF IR pl) (lsF IR IS LR LS h pl) n.toNat) (ur (hoA (lf LR) (kdF IR pl) (lsF IR IS LR LS h pl) n.toNat) 0 0) (foA (lf LR) (kdF IR pl) (lsF IR IS LR LS h pl) n.toNat)) → K (some (ti z)) (sh, M2, nx, zl)) : fm_Y (d + 7) 365 [.ref 168] (sh, M, nx, zl) K := by
  have nr := hL.1.2.1
  have lr := hL.2.2.2.2.2.1.2
  have hs := hL.2.2.2.2.2.2.1
  have hv := hL.2.1
  have ek : ∀ j : Int, kdF IR pl j = kdT (le (lf IR) (pl j) 2) := fun j => rfl
  refine m365 [fx 168] ?_
  refine ⟨_, lushr16 (M 168 96), ?_⟩
  refine inodeAtStart_Y hL (by omega) (by omega) (fun r hnb => ?_)
  have rr := nbR_r hv (by omega) hnb
  -- the entries
  have hlen := lsF_len hs lr hA
  have hent : ∀ j : Int, 1 ≤ j → j ≤ n → kdF IR pl j = 1 → ∀ q : Int × Int, q ∈ lsF IR IS LR LS h pl j → 1 ≤ chd (lf LR) q.1 q.2 ∧ chd (lf LR) q.1 q.2 ≤ n := by
    intro j j0 j1 jk q hq
    obtain ⟨E, b, e, li⟩ := hA j j0 j1 jk
    have eE : lsF IR IS LR LS h pl j = E := lsE_eq hs li
    rw [eE] at hq
    obtain ⟨y, -, y2, -⟩ := li.2.1.2 q hq
    have := (hv.2 y y2.1).2.1
    omega
  have hS : ∀ f c : Int, prS2 (lf LR) (kdF IR pl) (lsF IR IS LR LS h pl) n.toNat f c → (1 ≤ f ∧ f ≤ n ∧ kdF IR pl f = 1) ∧ 1 ≤ c ∧ c ≤ n := by
    rintro f c ⟨⟨f0, f1, f2⟩, q, q1, q2⟩
    have := hent f f0 (by omega) f2 q q1
    exact ⟨⟨f0, by omega, f2⟩, by omega⟩
  have TR := mt_tr (g := lf IR) (pl := pl) (n := n) (r := r) (kd := kdF IR pl) (fo := foA (lf LR) (kdF IR pl) (lsF IR IS LR LS h pl) n.toNat) (hm_0 (hmA (lg := lf LR) (kd := kdF IR pl) (Ef := lsF IR IS LR LS h pl) n.toNat) (fun f c q => (hS f c q).2.1)) hS rr
  have kk : ∀ (M2 : FM) (z : Int), mtF M M2 → M2 168 119 = r → (z = 1 ∧ mtP (lf IR) pl n r (kdF IR pl) (tiA (lf LR) (kdF IR pl) (lsF IR IS LR LS h pl) n.toNat) (foA (lf LR) (kdF IR pl) (lsF IR IS LR LS h pl) n.toNat) (prS2 (lf LR) (kdF IR pl) (lsF IR IS LR LS h pl) n.toNat) ∨ z = 0 ∧ ¬ mtP (lf IR) pl n r (kdF IR pl) (tiA (lf LR) (kdF IR pl) (lsF IR IS LR LS h pl) n.toNat) (foA (lf LR) (kdF IR pl) (lsF IR IS LR LS h pl) n.toNat) (prS2 (lf LR) (kdF IR pl) (lsF IR IS LR LS h pl) n.toNat)) → K (some (ti z)) (sh, M2, nx, zl) := by
    intro M2 z F2 e hz
    refine k M2 z r F2 hnb e ?_
    rw [← TR]
    exact hz
  clear k TR
  have tr0 := tiA_r (lg := lf LR) hlen n.toNat (by omega)
  have fr0 := foA_r (lg := lf LR) hlen n.toNat (by omega)
  obtain ⟨kd, gkd⟩ : ∃ kd : Int → Int, kd = kdF IR pl := ⟨_, rfl⟩
  rw [← gkd] at ek hS kk hlen hent tr0 fr0
  obtain ⟨Ef, gEf⟩ : ∃ Ef : Int → List (Int × Int), Ef = lsF IR IS LR LS h pl := ⟨_, rfl⟩
  rw [← gEf] at hS kk hlen hent tr0 fr0
  have NO : ∀ M2 : FM, mtF M M2 → M2 168 119 = r → ¬ mtP (lf IR) pl n r kd (tiA (lf LR) kd Ef n.toNat) (foA (lf LR) kd Ef n.toNat) (prS2 (lf LR) kd Ef n.toNat) → K (some (ti 0)) (sh, M2, nx, zl) := fun M2 F2 e q => kk M2 0 F2 e (Or.inr ⟨rfl, q⟩)
  -- last: every node
  have L193 : ∀ (G : Nat) (j : Int) (M1 : FM) (y2 y3 : Option TV), (n + 1 - j).toNat < G → 1 ≤ j → j ≤ n + 1 → mtF M M1 → M1 168 119 = r → (r ≠ 0 ∧ kd r = 1 ∧ paF (lf IR) pl r = n + 1) → (∀ f c : Int, prS2 (lf LR) kd Ef n.toNat f c → kd c = 1 → paF (lf IR) pl c = f) → (eqN n (M1 261) (tiA (lf LR) kd Ef n.toNat) ∧ eqN n (M1 262) (foA (lf LR) kd Ef n.toNat)) → (∀ i : Int, 1 ≤ i → i < j → mnP (lf IR) pl n r kd (tiA (lf LR) kd Ef n.toNat) (foA (lf LR) kd Ef n.toNat) i) → fm_X (d + 6) kd365 193 [some (fx 168), some (ti j), y2, y3] [] (sh, M1, nx, zl) K := by
    intro G
    induction G with
    | zero => intro j M1 y2 y3 q; omega
    | succ G ih =>
      intro j M1 y2 y3 q1 q2 q3 F1 e19 hroot hpa hct ok
      have hL1 := mlC_tt hL F1
      have nr1 := hL1.1.2.1
      refine s365_193 (d + 6) K _ _ _ ?_
      refine ⟨by omega, fun w => ⟨Or.inr rfl, kk M1 1 F1 e19 (Or.inl ⟨rfl, hroot, hpa, fun i i0 i1 => ok i i0 (by omega)⟩)⟩, fun w => ?_⟩
      have e1 := hct.1 j q2 (by omega)
      have e2 := hct.2 j q2 (by omega)
      have t0 := tr0 j
      have f0 := fr0 j
      obtain ⟨tj', gt⟩ : ∃ x : Int, x = tiA (lf LR) kd Ef n.toNat j := ⟨_, rfl⟩
      obtain ⟨fj', gf⟩ : ∃ x : Int, x = foA (lf LR) kd Ef n.toNat j := ⟨_, rfl⟩
      have NOj : ¬ mnP (lf IR) pl n r kd (tiA (lf LR) kd Ef n.toNat) (foA (lf LR) kd Ef n.toNat) j → K (some (ti 0)) (sh, M1, nx, zl) := fun q => NO M1 F1 e19 (fun y => q (y.2.2 j q2 (by omega)))
      have GO : ∀ (y2 y3 : Option TV), mnP (lf IR) pl n r kd (tiA (lf LR) kd Ef n.toNat) (foA (lf LR) kd Ef n.toNat) j → fm_X (d + 6) kd365 193 [some (fx 168), some (ti (j + 1)), y2, y3] [] (sh, M1, nx, zl) K := by
        intro y2 y3 q
        refine ih (j + 1) M1 y2 y3 (by omega) (by omega) (by omega) F1 e19 hroot hpa hct (fun i i0 i1 => ?_)
        by_cases c : i < j
        · exact ok i i0 c
        · rw [show i = j by omega]
          exact q
      rw [← gt] at e1 t0
      rw [← gf] at e2 f0
      have eIn : inQ r kd (tiA (lf LR) kd Ef n.toNat) j = (if j = r then tj' = 0 else if kd j = 1 then tj' = 1 else 0 < tj') := by rw [gt]; rfl
      have emn : mnP (lf IR) pl n r kd (tiA (lf LR) kd Ef n.toNat) (foA (lf LR) kd Ef n.toNat) j = (inQ r kd (tiA (lf LR) kd Ef n.toNat) j ∧ lnK (lf IR) (pl j) = (if kd j = 1 then 2 + fj' else tj') ∧ (kd j = 1 → rcR (paF (lf IR) pl) kd n r 100 j)) := by rw [gt, gf]; rfl
      rw [emn] at NOj GO
      obtain ⟨Q, gQ⟩ : ∃ Q : Prop, Q = inQ r kd (tiA (lf LR) kd Ef n.toNat) j := ⟨_, rfl⟩
      rw [← gQ] at NOj GO eIn
      refine isDirectory_Y hL1 (by omega) (fun z hz => ?_)
      have hzk : (z = 1 ∧ kd j = 1) ∨ (z = 0 ∧ kd j ≠ 1) := by rw [ek j]; exact hz
      clear hz
      -- behind whether the entries are right in number
      have B268 : ∀ v : Int, (v = 1 ∧ Q ∨ v = 0 ∧ ¬ Q) → b365_268 (d + 6) (fW (d + 6) kd365 K) K [some (fx 168), some (ti j), some (ti z), y3] [ti v] (sh, M1, nx, zl) := by
        intro v hvq
        rcases hvq.symm with ⟨v1, v2⟩ | ⟨v1, v2⟩
        · rw [v1]
          exact ⟨by omega, fun _ => ⟨Or.inl rfl, NOj (fun q => v2 q.1)⟩, fun q => absurd rfl q⟩
        rw [v1]
        refine ⟨by omega, fun q => by omega, fun _ => ?_⟩
        refine linksOf_Y hL1 (by omega) (fun lk => ?_)
        rcases hzk.symm with ⟨z1, z2⟩ | ⟨z1, z2⟩
        · rw [z1]
          refine ⟨by omega, fun _ => ?_, fun q => absurd rfl q⟩
          refine ⟨by omega, ?_⟩
          rw [e1]
          refine ⟨by omega, ?_⟩
          refine ⟨by omega, fun w3 => ⟨Or.inl rfl, NOj (fun q => ?_)⟩, fun w3 => ?_⟩
          · have := q.2.1
            rw [if_neg z2] at this
            exact w3 this
          · refine ⟨by omega, fun _ => GO _ _ ⟨v2, ?_, fun q => absurd q z2⟩, fun q => absurd rfl q⟩
            rw [if_neg z2]
            exact w3
        · rw [z1]
          refine ⟨by omega, fun q => by omega, fun _ => ?_⟩
          refine ⟨by omega, ?_⟩
          rw [e2]
          refine ⟨by omega, ?_⟩
          refine ⟨by omega, fun w3 => ⟨Or.inl rfl, NOj (fun q => ?_)⟩, fun w3 => ?_⟩
          · have := q.2.1
            rw [if_pos z2] at this
            exact w3 this
          · refine ⟨by omega, fun q => by omega, fun _ => ?_⟩
            refine mreached_Y hL1 (by omega) e19 rr (fun u hu => ?_)
            rw [← gkd] at hu
            rcases hu.symm with ⟨u1, u2⟩ | ⟨u1, u2⟩
            · rw [u1]
              exact ⟨by omega, fun q => absurd rfl q, fun _ => ⟨Or.inl rfl, NOj (fun q => u2 (q.2.2 z2))⟩⟩
            · rw [u1]
              refine ⟨by omega, fun _ => GO _ _ ⟨v2, ?_, fun _ => u2⟩, fun q => by omega⟩
              rw [if_pos z2]
              exact w3
      refine ⟨by omega, fun w1 => ?_, fun w1 => ?_⟩
      · rw [if_neg (show j ≠ r by omega)] at eIn
        rcases hzk.symm with ⟨z1, z2⟩ | ⟨z1, z2⟩
        · rw [if_neg z2] at eIn
          refine ⟨by omega, fun _ => ?_, fun q => by omega⟩
          refine ⟨by omega, ?_⟩
          rw [e1]
          exact ⟨by omega, fun w3 => B268 0 (Or.inr ⟨rfl, by rw [eIn]; omega⟩), fun w3 => B268 1 (Or.inl ⟨rfl, by rw [eIn]; omega⟩)⟩
        · rw [if_pos z2] at eIn
          refine ⟨by omega, fun q => by omega, fun _ => ?_⟩
          refine ⟨by omega, ?_⟩
          rw [e1]
          exact ⟨by omega, fun w3 => B268 0 (Or.inr ⟨rfl, by rw [eIn]; omega⟩), fun w3 => B268 1 (Or.inl ⟨rfl, by rw [eIn]; omega⟩)⟩
      · rw [if_pos (show j = r by omega)] at eIn
        refine ⟨by omega, ?_⟩
        rw [e1]
        exact ⟨by omega, fun w3 => B268 0 (Or.inr ⟨rfl, by rw [eIn]; omega⟩), fun w3 => B268 1 (Or.inl ⟨rfl, by rw [eIn]; omega⟩)⟩
  -- one folder's walk
  have L124 : ∀ (E : List (Int × Int)) (j b e a l hd : Int) (M1 : FM) (y3 : Option TV), (1 ≤ j ∧ j ≤ n) → e ≤ LR.length → mtF M M1 → M1 168 119 = r → (M1 168 112 = e ∧ M1 168 116 = a ∧ M1 168 117 = l) → (l ≠ 0 → M1 168 118 = hd ∧ 0 ≤ hd ∧ hd + 12 ≤ e) → 0 ≤ a → (0 ≤ l ∧ l ≤ 256) → wkL IS (lf LR) e a l hd E → (∀ q : Int × Int, q ∈ E → 1 ≤ chd (lf LR) q.1 q.2 ∧ chd (lf LR) q.1 q.2 ≤ n) →
      (∀ M3 : FM, mtF M M3 → M3 168 119 = r → ¬ (∀ q : Int × Int, q ∈ E → kd (chd (lf LR) q.1 q.2) = 1 → paF (lf IR) pl (chd (lf LR) q.1 q.2) = j) → K (some (ti 0)) (sh, M3, nx, zl)) →
      (∀ (M3 : FM), mtF M M3 → M3 168 119 = r → (∀ q : Int × Int, q ∈ E → kd (chd (lf LR) q.1 q.2) = 1 → paF (lf IR) pl (chd (lf LR) q.1 q.2) = j) → M3 261 = tiL (lf LR) E (M1 261) → M3 262 = foL (lf LR) kd j E (M1 262) → fm_X (d + 6) kd365 94 [some (fx 168), some (ti (j + 1)), some (ti 1), y3] [] (sh, M3, nx, zl) K) →
      fm_X (d + 6) kd365 124 [some (fx 168), some (ti j), some (ti 1), y3] [] (sh, M1, nx, zl) K := by
    intro E
    induction E with
    | nil =>
      intro j b e a l hd M1 y3 hj he F1 e19 hm h18 ha hl hE hq c0 c1
      have ee := hE.1
      refine s365_124 (d + 6) K _ _ _ ?_
      refine ⟨by omega, fun q => by omega, fun _ => ?_⟩
      refine nextEnd_Y (a := a) (by omega) (by omega) (by omega) ?_
      exact ⟨by omega, fun _ => c1 M1 F1 e19 (fun q q1 => by cases q1) rfl rfl, fun q => absurd rfl q⟩
    | cons q E ih =>
      intro j b e a l hd M1 y3 hj he F1 e19 hm h18 ha hl hE hq c0 c1
      obtain ⟨hd2, a2⟩ := q
      obtain ⟨l2, n1, n2, n3⟩ := hE
      dsimp only at n1 n2 n3
      have hL1 := mlC_tt hL F1
      have l6 := le_nn (lf LR) 2 (a2 + 6)
      have z3 := le_nn (lf LR) 4 a
      have E1 := n2.1
      have hda : (0 ≤ hd2 ∧ hd2 + 12 ≤ e) ∧ a ≤ a2 ∧ (1 ≤ l2 ∧ l2 ≤ 256) := by
        rcases n1 with z | z
        · have := h18 z.1
          omega
        · have z1 := z.2.1.1
          have z2 := z.2.1.2.1
          omega
      refine s365_124 (d + 6) K _ _ _ ?_
      refine ⟨by omega, fun q => by omega, fun _ => ?_⟩
      refine nextEntry_Y hL1 hm.1 hm.2.1 hm.2.2 h18 ha he hl n1 n2 (fun M3 F3 t1 t2 t3 => ?_)
      have F13 := mt_mo F1 F3
      have c19 : M3 168 119 = r := by rw [F3.2 119 (by omega)]; exact e19
      obtain ⟨c, gc⟩ : ∃ c : Int, c = chd (lf LR) hd2 a2 := ⟨_, rfl⟩
      have cr : 1 ≤ c ∧ c ≤ n := by rw [gc]; exact hq (hd2, a2) List.mem_cons_self
      have t13 : M3 168 113 = c := t2.1.trans gc.symm
      refine ⟨by omega, fun q => by omega, fun _ => ?_⟩
      refine ⟨by omega, ?_⟩
      refine ⟨by omega, ?_⟩
      obtain ⟨P1, g1⟩ : ∃ P1 : FM, P1 = pq M3 261 (M3 168 113) (M3 261 (M3 168 113) + 1) := ⟨_, rfl⟩
      have FP1 : mtF M P1 := by
        rw [g1]
        exact mt_cell _ _ F13 (Or.inl rfl)
      have p168 : P1 168 = M3 168 := by rw [g1, pq_o _ _ _ (by omega)]
      have p261 : P1 261 = ur (M1 261) c (M1 261 c + 1) := by
        rw [g1, F3.1 261 (by omega), t13]
        unfold pq
        rw [um_at, F3.1 261 (by omega)]
      have p262 : P1 262 = M1 262 := by rw [g1, pq_o _ _ _ (by omega), F3.1 262 (by omega)]
      have hLP := mlC_tt hL FP1
      have T1 : (o_al 0 (o_al 0 (o_get 12 113 113 (o_callv (d + 6) 354 1 12 (o_if .eq (fW (d + 6) kd365 K 124) (o_al 0 (o_get 12 121 121 (o_il 1 (o_dup2 (o_iald (o_ic 1 (b365_167 (d + 6) (fW (d + 6) kd365 K) K))))))))))) : FC) [some (fx 168), some (ti j), some (ti 1), y3] [] (sh, P1, nx, zl) := by
        have q13 : P1 168 113 = c := by rw [p168]; exact t13
        refine isDirectory_Y hLP (by omega) (fun z hz => ?_)
        rw [q13] at hz
        have hzk : (z = 1 ∧ kd c = 1) ∨ (z = 0 ∧ kd c ≠ 1) := by rw [ek c]; exact hz
        rcases hzk.symm with ⟨z1, z2⟩ | ⟨z1, z2⟩
        · rw [z1]
          refine ⟨by omega, fun _ => ?_, fun q => absurd rfl q⟩
          refine ih j b e (a2 + 9 + le (lf LR) (a2 + 6) 2) (l2 - 1) hd2 P1 y3 hj he FP1 (by rw [p168]; exact c19) ⟨by rw [p168]; exact t1.2, by rw [p168]; exact t3.1, by rw [p168]; exact t3.2.1⟩ (fun _ => ⟨by rw [p168]; exact t3.2.2, hda.1⟩) (by omega) (by omega) n3 (fun q hq2 => hq q (List.mem_cons_of_mem _ hq2)) (fun M4 F4 u4 no => c0 M4 F4 u4 (fun y => no (fun q hq2 => y q (List.mem_cons_of_mem _ hq2)))) (fun M4 F4 u4 yes e4 e5 => c1 M4 F4 u4 (fun q hq2 hk2 => ?_) ?_ ?_)
          · rcases List.mem_cons.1 hq2 with y | y
            · rw [y] at hk2
              dsimp only at hk2
              rw [← gc] at hk2
              exact absurd hk2 z2
            · exact yes q y hk2
          · rw [e4, p261, gc]
            rfl
          · rw [e5, p262]
            show foL (lf LR) kd j E (M1 262) = foL (lf LR) kd j E (if kd (chd (lf LR) hd2 a2) = 1 then ur (M1 262) j (M1 262 j + 1) else M1 262)
            rw [if_neg (show ¬ kd (chd (lf LR) hd2 a2) = 1 by rw [← gc]; exact z2)]
        · rw [z1]
          refine ⟨by omega, fun q => by omega, fun _ => ?_⟩
          refine ⟨by omega, ?_⟩
          refine ⟨by omega, ?_⟩
          obtain ⟨P2, g2⟩ : ∃ P2 : FM, P2 = pq P1 262 j (P1 262 j + 1) := ⟨_, rfl⟩
          have FP2 : mtF M P2 := by
            rw [g2]
            exact mt_cell _ _ FP1 (Or.inr rfl)
          have r168 : P2 168 = M3 168 := by rw [g2, pq_o _ _ _ (by omega)]; exact p168
          have r261 : P2 261 = P1 261 := by rw [g2, pq_o _ _ _ (by omega)]
          have r262 : P2 262 = ur (M1 262) j (M1 262 j + 1) := by
            rw [g2]
            unfold pq
            rw [um_at, p262]
          have hLP2 := mlC_tt hL FP2
          have T2 : (o_al 0 (o_al 0 (o_get 12 113 113 (o_callv (d + 6) 366 1 12 (o_il 1 (o_i2l (o_lcmp .eq (fW (d + 6) kd365 K 124) (o_ic 0 (o_zret K)))))))) : FC) [some (fx 168), some (ti j), some (ti 1), y3] [] (sh, P2, nx, zl) := by
            have q213 : P2 168 113 = c := by rw [r168]; exact t13
            have ekc := ek c
            refine parentOf_Y hLP2 (by omega) (by rw [q213]; omega) (fun pr => ?_)
            rw [q213] at pr ⊢
            refine ⟨by omega, ?_⟩
            refine ⟨by omega, fun w4 => ?_, fun w4 => ⟨Or.inl rfl, c0 P2 FP2 (by rw [r168]; exact c19) (fun y => ?_)⟩⟩
            · refine ih j b e (a2 + 9 + le (lf LR) (a2 + 6) 2) (l2 - 1) hd2 P2 y3 hj he FP2 (by rw [r168]; exact c19) ⟨by rw [r168]; exact t1.2, by rw [r168]; exact t3.1, by rw [r168]; exact t3.2.1⟩ (fun _ => ⟨by rw [r168]; exact t3.2.2, hda.1⟩) (by omega) (by omega) n3 (fun q hq2 => hq q (List.mem_cons_of_mem _ hq2)) (fun M4 F4 u4 no => c0 M4 F4 u4 (fun y => no (fun q hq2 => y q (List.mem_cons_of_mem _ hq2)))) (fun M4 F4 u4 yes e4 e5 => c1 M4 F4 u4 (fun q hq2 hk2 => ?_) ?_ ?_)
              · rcases List.mem_cons.1 hq2 with y | y
                · rw [y]
                  dsimp only
                  rw [← gc]
                  exact w4
                · exact yes q y hk2
              · rw [e4, r261, p261, gc]
                rfl
              · rw [e5, r262]
                show foL (lf LR) kd j E (ur (M1 262) j (M1 262 j + 1)) = foL (lf LR) kd j E (if kd (chd (lf LR) hd2 a2) = 1 then ur (M1 262) j (M1 262 j + 1) else M1 262)
                rw [if_pos (show kd (chd (lf LR) hd2 a2) = 1 by rw [← gc]; exact z2)]
            · have y1 := y (hd2, a2) List.mem_cons_self
              dsimp only at y1
              rw [← gc] at y1
              exact w4 (y1 z2)
          rw [g2] at T2
          exact T2
      rw [g1] at T1
      exact T1
  -- all folders
  have L94 : ∀ (G : Nat) (m : Nat) (j : Int) (M1 : FM) (y2 y3 : Option TV), (n + 1 - j).toNat < G → j = m + 1 → j ≤ n + 1 → mtF M M1 → M1 168 119 = r → (r ≠ 0 ∧ kd r = 1 ∧ paF (lf IR) pl r = n + 1) → (∀ f c : Int, prS2 (lf LR) kd Ef m f c → kd c = 1 → paF (lf IR) pl c = f) → (eqN n (M1 261) (tiA (lf LR) kd Ef m) ∧ eqN n (M1 262) (foA (lf LR) kd Ef m)) → fm_X (d + 6) kd365 94 [some (fx 168), some (ti j), y2, y3] [] (sh, M1, nx, zl) K := by
    intro G
    induction G with
    | zero => intro m j M1 y2 y3 q; omega
    | succ G ih =>
      intro m j M1 y2 y3 q1 q2 q3 F1 e19 hroot hpa hct
      have hL1 := mlC_tt hL F1
      have nr1 := hL1.1.2.1
      refine s365_94 (d + 6) K _ _ _ ?_
      refine ⟨by omega, fun w => ?_, fun w => ?_⟩
      · have em : n.toNat = m := by omega
        rw [← em] at hpa hct
        exact L193 _ 1 M1 _ _ (Nat.lt_succ_self _) (by omega) (by omega) F1 e19 hroot (fun f c q => hpa f c q) hct (fun i i0 i1 => by omega)
      have ej : ((m : Int) + 1) = j := by omega
      have s1 : tiA (lf LR) kd Ef (m + 1) = if kd (m + 1) = 1 then tiL (lf LR) (Ef (m + 1)) (tiA (lf LR) kd Ef m) else tiA (lf LR) kd Ef m := rfl
      have s4 : foA (lf LR) kd Ef (m + 1) = if kd (m + 1) = 1 then foL (lf LR) kd (m + 1) (Ef (m + 1)) (foA (lf LR) kd Ef m) else foA (lf LR) kd Ef m := rfl
      rw [ej] at s1 s4
      refine isDirectory_Y hL1 (by omega) (fun z hz => ?_)
      have hzk : (z = 1 ∧ kd j = 1) ∨ (z = 0 ∧ kd j ≠ 1) := by rw [ek j]; exact hz
      clear hz
      rcases hzk.symm with ⟨z1, z2⟩ | ⟨z1, z2⟩
      · rw [z1]
        refine ⟨by omega, fun _ => ?_, fun q => absurd rfl q⟩
        refine s365_124 (d + 6) K _ _ _ ?_
        refine ⟨by omega, fun _ => ?_, fun q => absurd rfl q⟩
        rw [if_neg z2] at s1 s4
        refine ih (m + 1) (j + 1) M1 _ _ (by omega) (by omega) (by omega) F1 e19 hroot (fun f c hf hk => ?_) ?_
        · obtain ⟨⟨f0, f1, f2⟩, f3⟩ := hf
          by_cases c2 : f = j
          · rw [c2] at f2
            exact absurd f2 z2
          · exact hpa f c ⟨⟨f0, by omega, f2⟩, f3⟩ hk
        · rw [s1, s4]
          exact hct
      rw [z1]
      refine ⟨by omega, fun q => by omega, fun _ => ?_⟩
      have z2' : kdT (le (lf IR) (pl j) 2) = 1 := (ek j).symm.trans z2
      have z2'' : kdF IR pl j = 1 := z2'
      obtain ⟨E, b, e, li⟩ := hA j (by omega) (by omega) z2''
      have eE : Ef j = E := by
        rw [gEf]
        exact lsE_eq hs li
      have er := opP_r hs li.1
      refine openListing_Y hL1 (by omega) z2' (fun M2 F2 no => absurd li.1 (no b e)) (fun M2 b2 e2 F2 op v => ?_)
      obtain ⟨o1, o2⟩ := opP_one hs li.1 op
      rw [o1, o2] at v
      obtain ⟨v11, v12, v16, v17⟩ := v
      have F12 := mt_mo F1 F2
      have c19 : M2 168 119 = r := by rw [F2.2 119 (by omega)]; exact e19
      refine ⟨by omega, fun q => by omega, fun _ => ?_⟩
      rw [if_pos z2, eE] at s1 s4
      refine L124 E j b e b 0 0 M2 _ (by omega) (by omega) F12 c19 ⟨v12, v16, v17⟩ (fun q => absurd rfl q) (by omega) (by omega) li.2.1.1 (fun q hq => hent j (by omega) (by omega) z2 q (by rw [eE]; exact hq)) (fun M3 F3 u3 no => NO M3 F3 u3 (fun y => no (fun q hq hk => ?_))) (fun M3 F3 u3 yes e4 e5 => ?_)
      · exact y.2.1 j _ ⟨⟨by omega, by omega, z2⟩, q, by rw [eE]; exact hq, rfl⟩ hk
      · refine ih (m + 1) (j + 1) M3 _ _ (by omega) (by omega) (by omega) F3 u3 hroot (fun f c hf hk => ?_) ?_
        · obtain ⟨⟨f0, f1, f2⟩, q, f3, f4⟩ := hf
          by_cases c2 : f = j
          · rw [c2, eE] at f3
            have := yes q f3 (by rw [f4]; exact hk)
            rw [f4] at this
            rw [c2]
            exact this
          · exact hpa f c ⟨⟨f0, by omega, f2⟩, q, f3, f4⟩ hk
        · rw [s1, s4, e4, e5, F2.1 261 (by omega), F2.1 262 (by omega)]
          exact ⟨tiL_cg _ _ _ hct.1, foL_cg _ _ _ hct.2⟩
  -- all counts begin at 0
  have L64 : ∀ (G : Nat) (j : Int) (M1 : FM) (y2 y3 : Option TV), (n + 1 - j).toNat < G → 1 ≤ j → j ≤ n + 1 → mtF M M1 → M1 168 119 = r → (r ≠ 0 ∧ kd r = 1 ∧ paF (lf IR) pl r = n + 1) → (∀ i : Int, 1 ≤ i → i < j → M1 261 i = 0 ∧ M1 262 i = 0) → fm_X (d + 6) kd365 64 [some (fx 168), some (ti j), y2, y3] [] (sh, M1, nx, zl) K := by
    intro G
    induction G with
    | zero => intro j M1 y2 y3 q; omega
    | succ G ih =>
      intro j M1 y2 y3 q1 q2 q3 F1 e19 hroot z
      have hL1 := mlC_tt hL F1
      have nr1 := hL1.1.2.1
      refine s365_64 (d + 6) K _ _ _ ?_
      refine ⟨by omega, fun w => ?_, fun w => ?_⟩
      · refine L94 _ 0 1 M1 _ _ (Nat.lt_succ_self _) (by omega) (by omega) F1 e19 hroot (fun f c q => ?_) ⟨fun i i0 i1 => (z i i0 (by omega)).1, fun i i0 i1 => (z i i0 (by omega)).2⟩
        have := q.1
        omega
      refine ⟨by omega, ?_⟩
      refine ⟨by omega, ?_⟩
      obtain ⟨P, gP⟩ : ∃ P : FM, P = pq (pq M1 261 j 0) 262 j 0 := ⟨_, rfl⟩
      have TL : fm_X (d + 6) kd365 64 [some (fx 168), some (ti (j + 1)), y2, y3] [] (sh, P, nx, zl) K := by
        have p168 : P 168 = M1 168 := by rw [gP, pq_o _ _ _ (by omega), pq_o _ _ _ (by omega)]
        have p261 : P 261 = pq M1 261 j 0 261 := by rw [gP, pq_o _ _ _ (by omega)]
        refine ih (j + 1) P y2 y3 (by omega) (by omega) (by omega) ?_ (by rw [p168]; exact e19) hroot (fun i i0 i1 => ?_)
        · rw [gP]
          exact mt_cell _ _ (mt_cell _ _ F1 (Or.inl rfl)) (Or.inr rfl)
        · by_cases c : i = j
          · rw [p261, gP, c, pq_at, pq_at]
            exact ⟨rfl, rfl⟩
          · rw [p261, gP, pq_ne _ _ _ _ c, pq_ne _ _ _ _ c, pq_o _ _ _ (by omega)]
            exact z i i0 (by omega)
      rw [gP] at TL
      exact TL
  obtain ⟨P1, g1⟩ : ∃ P1 : FM, P1 = pq M 168 119 r := ⟨_, rfl⟩
  have FP : mtF M P1 := by
    rw [g1]
    exact mt_put _ _ (by omega)
  have p19 : P1 168 119 = r := by rw [g1, pq_at]
  have hLP := mlC_tt hL FP
  have nrP := hLP.1.2.1
  have T1 : (o_al 0 (o_get 12 119 119 (o_if .eq (b365_60 (d + 6) (fW (d + 6) kd365 K) K) (o_al 0 (o_al 0 (o_get 12 119 119 (o_callv (d + 6) 354 1 12 (o_if .eq (b365_60 (d + 6) (fW (d + 6) kd365 K) K) (o_al 0 (o_al 0 (o_get 12 119 119 (o_callv (d + 6) 366 1 12 (o_al 0 (o_get 12 92 92 (b365_53 (d + 6) (fW (d + 6) kd365 K) K)))))))))))))) : FC) [some (fx 168), none, none, none] [] (sh, P1, nx, zl) := by
    refine ⟨by omega, fun w => ⟨Or.inl rfl, NO P1 FP p19 (fun q => q.1.1 (by omega))⟩, fun w => ?_⟩
    refine isDirectory_Y hLP (by omega) (fun z hz => ?_)
    rw [p19] at hz
    have hzk : (z = 1 ∧ kd r = 1) ∨ (z = 0 ∧ kd r ≠ 1) := by rw [ek r]; exact hz
    clear hz
    have ekr := ek r
    rcases hzk.symm with ⟨z1, z2⟩ | ⟨z1, z2⟩
    · rw [z1]
      exact ⟨by omega, fun _ => ⟨Or.inl rfl, NO P1 FP p19 (fun q => z2 q.1.2.1)⟩, fun q => absurd rfl q⟩
    rw [z1]
    refine ⟨by omega, fun q => by omega, fun _ => ?_⟩
    refine parentOf_Y hLP (by omega) (by rw [p19]; omega) (fun pr => ?_)
    rw [p19] at pr ⊢
    refine ⟨by omega, ?_⟩
    refine ⟨by omega, fun w4 => ?_, fun w4 => ⟨Or.inl rfl, NO P1 FP p19 (fun q => w4 (by have := q.1.2.2; omega))⟩⟩
    exact L64 _ 1 P1 _ _ (Nat.lt_succ_self _) (by omega) (by omega) FP p19 ⟨by omega, z2, by omega⟩ (fun i i0 i1 => by omega)
  rw [g1] at T1
  exact T1
end MTREE
