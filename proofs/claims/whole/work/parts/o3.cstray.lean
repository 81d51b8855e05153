/-! COUNTING STRAYS: what is told of a node; the class -/
/-- what every inode tells -/
def tlC (g dg : Int → Int) (M0 : FM) (p x : Int) : Prop := le g (p + 2) 2 = M0 172 x ∧ s32 (le dg (4 * le g (p + 4) 2) 4) = M0 173 x ∧ s32 (le dg (4 * le g (p + 6) 2) 4) = M0 174 x ∧ s32 (le g (p + 8) 4) = M0 175 x
/-- entries of a listing are those of a directory, from the k-th on -/
def entQ (lg : Int → Int) (nu : Nat → Int) (nm : Nat → List Int) (n : Nat) : List (Int × Int) → Nat → Prop
  | [], k => k = n
  | q :: r, k => (k < n ∧ chd lg q.1 q.2 = nu k ∧ nmS lg q.2 = nm k) ∧ entQ lg nu nm n r (k + 1)
/-- links and device -/
def tlD (g : Int → Int) (M0 : FM) (p x : Int) : Prop := lnK g p = (if M0 171 x = 1 then foN M0 (fe M0 x) (ec M0 x) + 2 else M0 177 x) ∧ (M0 171 x = 4 ∨ M0 171 x = 5 → s32 (le g (p + 20) 4) = M0 176 x)
/-- what only some tell -/
def tlX (f g lg fg : Int → Int) (B : Int) (E : List (Int × Int)) (M0 : FM) (L : List Int) (p x : Int) : Prop := (M0 171 x = 1 → entQ lg (fun k => nuO L (M0 184 (fe M0 x + k))) (fun k => nmL M0 (fe M0 x + k)) (ec M0 x) E 0) ∧ (M0 171 x = 2 → fSz g p = M0 180 x ∧ ∀ i : Int, 0 ≤ i → i < M0 180 x → ctF f g fg B p i % 256 = M0 181 (M0 179 x + i) % 256) ∧ (M0 171 x = 3 → le g (p + 20) 4 = M0 180 x ∧ ∀ i : Int, 0 ≤ i → i < M0 180 x → g (p + 24 + i) % 256 = M0 182 (M0 179 x + i) % 256)
/-- a node is told by the image as it is in the tree -/
def toQ (f : Int → Int) (M0 : FM) (L : List Int) (x j : Int) : Prop := (tlC (lf (rwR (qI f))) (lf (rwR (qD f))) M0 (plf f j) x ∧ tlD (lf (rwR (qI f))) M0 (plf f j) x) ∧ tlX f (lf (rwR (qI f))) (lf (rwR (qL f))) (lf (rwR (qF f))) (le f 12 4) (lsE (rwR (qI f)) (rwS (qI f)) (rwR (qL f)) (rwS (qL f)) (hf f) (plf f j)) M0 L (plf f j) x
noncomputable def stC (P : Nat → Prop) : Nat → Int
  | 0 => 0
  | k + 1 => stC P k + cif (P k) 0 1
theorem stC_r (P : Nat → Prop) : ∀ k : Nat, 0 ≤ stC P k ∧ stC P k ≤ k
  | 0 => ⟨Int.le_refl _, Int.le_refl _⟩
  | k + 1 => by
    have ih := stC_r P k
    show 0 ≤ stC P k + cif (P k) 0 1 ∧ stC P k + cif (P k) 0 1 ≤ ((k + 1 : Nat) : Int)
    rcases cif_or (P k) (0 : Int) 1 with e | e <;> omega
section CSTRAY
variable {d nx zl : Nat} {K : Option TV → FH → Prop} {sh : Nat → Option Shp} {M M0 : FM} {f : Int → Int} {s : Int}
/-- a number about an inode -/
theorem tellQ {j w : Int} (hs : s ≤ 131072) (hO : ftO f s) (hm : mtC M f s) (hj : 1 ≤ j ∧ j ≤ le f 4 4) (hw : 0 ≤ w ∧ w ≤ 20) (k : K (some (tj (abV (lf (rwR (qI f))) (lf (rwR (qD f))) (le f 12 4) (plf f j) (rof f) (paF (lf (rwR (qI f))) (plf f) j) (eaQ f j) j w))) (sh, M, nx, zl)) : fm_Y (d + 4) 211 [.ref 97, .int (Int32.ofInt j), .int (Int32.ofInt w)] (sh, M, nx, zl) K := by
  have rr := ro_r hs hO
  obtain ⟨-, sn, sF, sI, -⟩ := su_B hO.1
  exact tell_Y hm.1 hm.2.1 (by omega) hm.2.2.1 (by omega) hm.2.2.2.1 (ea_r hs hO hj.1 hj.2) hj (fun q1 q2 => pa_r hO hj.1 hj.2 q1 q2) (by omega) k
theorem differs_Y {x : Int} {a : Nat} {j : Int} (hs : s ≤ 131072) (hO : ftO f s) (hm : mtC M f s) (hT : treeR sh M0) (hz : fzF sh M0 M) (hx : (0 ≤ x ∧ x < M0 168 5) ∧ live M0 x) (ha : M0 11 x = a) (h14 : M a 14 = j) (hj : 1 ≤ j ∧ j ≤ le f 4 4) (hk : kdQ f j = M0 171 x) (k : ∀ z : Int, (z = 0 ∧ tlC (lf (rwR (qI f))) (lf (rwR (qD f))) M0 (plf f j) x ∧ tlD (lf (rwR (qI f))) M0 (plf f j) x ∨ z = 1 ∧ ¬ (tlC (lf (rwR (qI f))) (lf (rwR (qD f))) M0 (plf f j) x ∧ tlD (lf (rwR (qI f))) M0 (plf f j) x)) → K (some (ti z)) (sh, M, nx, zl)) : fm_Y (d + 5) 210 [.ref 3, .ref a] (sh, M, nx, zl) K := by
  obtain ⟨a2, h9, t9, ea, hS, ha3, hE, -⟩ := nd_of hT hx
  have ea2 : a2 = a := by omega
  rw [ea2] at hS ha3 hE
  obtain ⟨e0, e1, e2, e5, e6, e7, e8, e9, e10⟩ := hE
  obtain ⟨k1, -, t172, t173, t174, t175, t176⟩ := hT.1.1.2 x hx.1.1 hx.1.2
  have fa : ∀ i : Int, i < 14 → M a i = M0 a i := fun i hi => hz.2.2 a i ha3 hi
  have c1 : M a 1 = M0 171 x := by rw [fa 1 (by decide), e1]
  have c5 : M a 5 = M0 172 x := by rw [fa 5 (by decide), e5]
  have c6 : M a 6 = M0 173 x := by rw [fa 6 (by decide), e6]
  have c7 : M a 7 = M0 174 x := by rw [fa 7 (by decide), e7]
  have c8 : M a 8 = M0 175 x := by rw [fa 8 (by decide), e8]
  have c9 : M a 9 = M0 177 x := by rw [fa 9 (by decide), e9]
  have c2 : M a 2 = if M0 171 x = 4 ∨ M0 171 x = 5 then M0 176 x else 0 := by rw [fa 2 (by decide), e2]
  have tc := (hT.1.2.2.2.2.2.2 x hx.1.1 hx.1.2).1
  have tcr := cnt_nn (M0 184) x (M0 168 20).toNat
  have n20 := hT.1.2.2.2.1.1
  have fr := foN_r M0 (fe M0 x) (ec M0 x)
  have er := fe_r hT.1 x
  obtain ⟨g, hg⟩ : ∃ g : Int → Int, g = lf (rwR (qI f)) := ⟨_, rfl⟩
  obtain ⟨dg, hdg⟩ : ∃ dg : Int → Int, dg = lf (rwR (qD f)) := ⟨_, rfl⟩
  obtain ⟨p, hp⟩ : ∃ p : Int, p = plf f j := ⟨_, rfl⟩
  rw [← hg, ← hdg, ← hp] at k
  have kp : kdT (le g p 2) = M0 171 x := by rw [hg, hp]; exact hk
  have TELL : ∀ (w : Int) (K2 : Option TV → FH → Prop), (0 ≤ w ∧ w ≤ 20) → K2 (some (tj (abV g dg (le f 12 4) p (rof f) (paF g (plf f) j) (eaQ f j) j w))) (sh, M, nx, zl) → fm_Y (d + 4) 211 [.ref 97, .int (Int32.ofInt (M a 14)), .int (Int32.ofInt w)] (sh, M, nx, zl) K2 := fun w K2 hw k2 => by
    rw [h14]
    refine tellQ hs hO hm hj hw ?_
    rw [← hg, ← hdg, ← hp]
    exact k2
  have l2 := le_nn g 2 (p + 2)
  have l2' := le_lt2 g (p + 2)
  have s2 := s32_r (le dg (4 * le g (p + 4) 2) 4)
  have s3 := s32_r (le dg (4 * le g (p + 6) 2) 4)
  have s4 := s32_r (le g (p + 8) 4)
  have s7 := s32_r (le g (p + 20) 4)
  have lk0 : 0 ≤ lnK g p ∧ lnK g p ≤ 4294967296 := by
    unfold lnK
    have q1 := le_nn g 4 (p + 20)
    have q2 := le_lt4 g (p + 20)
    have q3 := le_nn g 4 (p + 40)
    have q4 := le_lt4 g (p + 40)
    have q5 := le_nn g 4 (p + 16)
    have q6 := le_lt4 g (p + 16)
    split
    · omega
    · split
      · omega
      · split <;> omega
  have NO : ¬ (tlC g dg M0 p x ∧ tlD g M0 p x) → n210_168 (d + 4) (fW (d + 4) kd210 K) K [some (fx 3), some (gr a), some (ti (if M0 171 x = 1 then foN M0 (fe M0 x) (ec M0 x) + 2 else M0 177 x))] [] (sh, M, nx, zl) := fun h => ⟨Or.inr rfl, k 1 (Or.inr ⟨rfl, h⟩)⟩
  obtain ⟨lk, hlk⟩ : ∃ lk : Int, lk = if M0 171 x = 1 then foN M0 (fe M0 x) (ec M0 x) + 2 else M0 177 x := ⟨_, rfl⟩
  have lkr : 0 ≤ lk ∧ lk ≤ 10000 := by
    rw [hlk]
    split <;> omega
  rw [← hlk] at NO
  have B25 : n210_25 (d + 4) (fW (d + 4) kd210 K) K [some (fx 3), some (gr a), none] [ti lk] (sh, M, nx, zl) := by
    refine ⟨_, hS, ?_⟩
    refine TELL 0 _ (by omega) ?_
    have v0 : abV g dg (le f 12 4) p (rof f) (paF g (plf f) j) (eaQ f j) j 0 = kdT (le g p 2) := rfl
    rw [v0, kp]
    refine ⟨_, hS, ?_⟩
    refine ⟨by omega, ?_⟩
    refine ⟨by omega, fun w => absurd c1.symm w, fun w => ?_⟩
    refine ⟨_, hS, ?_⟩
    refine TELL 1 _ (by omega) ?_
    have v1 : abV g dg (le f 12 4) p (rof f) (paF g (plf f) j) (eaQ f j) j 1 = le g (p + 2) 2 := rfl
    rw [v1]
    refine ⟨_, hS, ?_⟩
    refine ⟨by omega, ?_⟩
    refine ⟨by omega, fun w => NO (fun q => w (by rw [c5]; exact q.1.1)), fun w1 => ?_⟩
    refine ⟨_, hS, ?_⟩
    refine TELL 2 _ (by omega) ?_
    have v2 : abV g dg (le f 12 4) p (rof f) (paF g (plf f) j) (eaQ f j) j 2 = le dg (4 * le g (p + 4) 2) 4 := rfl
    rw [v2]
    refine ⟨_, hS, ?_⟩
    refine ⟨by omega, fun w => NO (fun q => w (by rw [c6]; exact q.1.2.1)), fun w2 => ?_⟩
    refine ⟨_, hS, ?_⟩
    refine TELL 3 _ (by omega) ?_
    have v3 : abV g dg (le f 12 4) p (rof f) (paF g (plf f) j) (eaQ f j) j 3 = le dg (4 * le g (p + 6) 2) 4 := rfl
    rw [v3]
    refine ⟨_, hS, ?_⟩
    refine ⟨by omega, fun w => NO (fun q => w (by rw [c7]; exact q.1.2.2.1)), fun w3 => ?_⟩
    refine ⟨_, hS, ?_⟩
    refine TELL 4 _ (by omega) ?_
    have v4 : abV g dg (le f 12 4) p (rof f) (paF g (plf f) j) (eaQ f j) j 4 = le g (p + 8) 4 := rfl
    rw [v4]
    refine ⟨_, hS, ?_⟩
    refine ⟨by omega, fun w => NO (fun q => w (by rw [c8]; exact q.1.2.2.2)), fun w4 => ?_⟩
    refine ⟨_, hS, ?_⟩
    refine TELL 6 _ (by omega) ?_
    have v6 : abV g dg (le f 12 4) p (rof f) (paF g (plf f) j) (eaQ f j) j 6 = lnK g p := rfl
    rw [v6]
    refine ⟨by omega, ?_⟩
    refine ⟨by omega, fun w => NO (fun q => w (by rw [hlk]; exact q.2.1)), fun w6 => ?_⟩
    refine ⟨_, hS, ?_⟩
    refine TELL 7 _ (by omega) ?_
    have v7 : abV g dg (le f 12 4) p (rof f) (paF g (plf f) j) (eaQ f j) j 7 = if kdT (le g p 2) = 4 ∨ kdT (le g p 2) = 5 then le g (p + 20) 4 else 0 := rfl
    rw [v7, kp]
    refine ⟨_, hS, ?_⟩
    have T0 : tlC g dg M0 p x := ⟨by omega, by omega, by omega, by omega⟩
    by_cases c45 : M0 171 x = 4 ∨ M0 171 x = 5
    · rw [if_pos c45] at c2 ⊢
      refine ⟨by omega, fun w => ⟨Or.inl rfl, k 0 (Or.inl ⟨rfl, T0, by rw [← hlk]; exact w6, fun _ => by rw [← c2]; exact w⟩)⟩, fun w => NO (fun q => w (by rw [c2]; exact q.2.2 c45))⟩
    · rw [if_neg c45] at c2 ⊢
      have z0 : s32 0 = 0 := rfl
      refine ⟨by omega, fun w => ⟨Or.inl rfl, k 0 (Or.inl ⟨rfl, T0, by rw [← hlk]; exact w6, fun q => absurd q c45⟩)⟩, fun w => absurd (by rw [c2]; exact z0) w⟩
  refine mn210 [fx 3, gr a] ?_
  refine ⟨_, hS, ?_⟩
  by_cases d1 : M0 171 x = 1
  · rw [if_pos d1] at hlk
    refine ⟨by omega, fun w => by omega, fun _ => ?_⟩
    refine foldersIn_Y (d := d) hT hz hx ha ?_
    rw [hlk] at B25
    exact B25
  · rw [if_neg d1, ← c9] at hlk
    refine ⟨by omega, fun _ => ?_, fun w => by omega⟩
    refine ⟨_, hS, ?_⟩
    rw [hlk] at B25
    exact B25
theorem entriesDiffer_Y {x : Int} {a : Nat} {j : Int} {L : List Int} (hs : s ≤ 131072) (hO : ftO f s) (hm : mtC M f s) (hT : treeR sh M0) (hz : fzF sh M0 M) (hx : (0 ≤ x ∧ x < M0 168 5) ∧ live M0 x) (ha : M0 11 x = a) (h14 : M a 14 = j) (hj : 1 ≤ j ∧ j ≤ le f 4 4) (hk : kdQ f j = 1) (hnu : ∀ t : Nat, t < ec M0 x → M (ceC M0 x t) 14 = nuO L (M0 184 (fe M0 x + t)) ∧ nuO L (M0 184 (fe M0 x + t)) ≤ 2000 ∧ 0 ≤ nuO L (M0 184 (fe M0 x + t)))
    (k : ∀ (M2 : FM) (z : Int), (∀ c : Nat, c ≠ 100 → M2 c = M c) → (z = 0 ∧ entQ (lf (rwR (qL f))) (fun t => nuO L (M0 184 (fe M0 x + t))) (fun t => nmL M0 (fe M0 x + t)) (ec M0 x) (lsE (rwR (qI f)) (rwS (qI f)) (rwR (qL f)) (rwS (qL f)) (hf f) (plf f j)) 0 ∨ z = 1 ∧ ¬ entQ (lf (rwR (qL f))) (fun t => nuO L (M0 184 (fe M0 x + t))) (fun t => nmL M0 (fe M0 x + t)) (ec M0 x) (lsE (rwR (qI f)) (rwS (qI f)) (rwR (qL f)) (rwS (qL f)) (hf f) (plf f j)) 0) → K (some (ti z)) (sh, M2, nx, zl)) : fm_Y (d + 5) 213 [.ref 3, .ref a] (sh, M, nx, zl) K := by
  have hL := hm.1.1
  have lr := hL.2.2.2.2.2
  have hsh := hL.2.2.2.1.2.2.2.1
  have ag := hL.2.2.2.2.1
  obtain ⟨a2, h9, t9, ea, hS, ha3, hE, -⟩ := nd_of hT hx
  have ea2 : a2 = a := by omega
  rw [ea2] at hS ha3 hE
  have n20 := hT.1.2.2.2.1.1
  have nN := hT.1.1.1
  have er := fe_r hT.1 x
  have e10 : M a 10 = (ec M0 x : Nat) := by
    rw [hz.2.2 a 10 ha3 (by decide)]
    have q1 := hE.2.2.2.2.2.2.2.2
    have q2 := (cnt_nn (M0 183) x (M0 168 20).toNat).1
    unfold ec
    omega
  have TM := treeR_fz hT hz
  obtain ⟨nu, hnu2⟩ : ∃ nu : Nat → Int, nu = fun t : Nat => nuO L (M0 184 (fe M0 x + t)) := ⟨_, rfl⟩
  obtain ⟨nm, hnm⟩ : ∃ nm : Nat → List Int, nm = fun t : Nat => nmL M0 (fe M0 x + t) := ⟨_, rfl⟩
  rw [← hnu2, ← hnm] at k
  have li := hO.2.2.2.2.2.1 j hj.1 hj.2 hk
  obtain ⟨E, b, e, li⟩ := li
  have eE := lsE_eq hsh li
  rw [eE] at k
  have eop := opP_r hsh li.1
  have fx1 : ∀ M1 : FM, (∀ c : Nat, c ≠ 100 → M1 c = M c) → fe M1 x = fe M0 x := fun M1 f1 => by
    unfold fe
    rw [f1 168 (by omega), f1 183 (by omega), hz.1 168 (by omega), hz.1 183 (by omega)]
  -- once it differs
  have L0 : ∀ (N i : Nat) (M1 : FM) (y6 : Option TV), ec M0 x - i < N → i ≤ ec M0 x → (∀ c : Nat, c ≠ 100 → M1 c = M c) → ¬ entQ (lf (rwR (qL f))) nu nm (ec M0 x) E 0 → fm_X (d + 4) kd213 31 [some (fx 3), some (gr a), some (fx 100), some (ti 0), some (ti (fe M0 x)), some (ti (fe M0 x + i)), y6] [] (sh, M1, nx, zl) K := by
    intro N
    induction N with
    | zero =>
      intro i M1 y6 hN
      omega
    | succ N ih =>
      intro i M1 y6 hN hi f1 hno
      have u10 : M1 a 10 = (ec M0 x : Nat) := by rw [f1 a (by omega)]; exact e10
      refine s213_31 (d + 4) K _ _ _ ?_
      refine ⟨_, hS, ?_⟩
      refine ⟨by omega, fun w => ?_, fun w => ?_⟩
      · refine ⟨by omega, fun _ => ⟨Or.inr rfl, k M1 1 f1 (Or.inr ⟨rfl, hno⟩)⟩, fun w2 => absurd rfl w2⟩
      · obtain ⟨-, -, r, rb, e14, hD⟩ := TM.2.2.2.1 (fe M0 x + i) (by omega) (by rw [hz.1 168 (by omega)]; omega)
        have f14 : M1 14 (fe M0 x + i) = r := by rw [f1 14 (by omega)]; exact e14
        refine ⟨by omega, fun m hm2 => ?_, fun hm2 => by omega⟩
        refine ⟨by omega, fun _ => ?_, fun w2 => absurd rfl w2⟩
        have F := ih (i + 1) M1 (some (gr m)) (by omega) (by omega) f1 hno
        rw [show fe M0 x + ((i + 1 : Nat) : Int) = fe M0 x + i + 1 by omega] at F
        exact F
  -- while it does not
  have L1 : ∀ (E2 : List (Int × Int)) (i : Nat) (M1 : FM) (al l hd : Int) (y6 : Option TV), i ≤ ec M0 x → (∀ c : Nat, c ≠ 100 → M1 c = M c) → (M1 100 4 = al ∧ M1 100 5 = e ∧ M1 100 7 = l) → (l ≠ 0 → hdC M1 (rwS (qI f)) (lf (rwR (qL f))) hd) → (0 ≤ al ∧ al ≤ e) → (0 ≤ l ∧ l ≤ 256) → wkL (rwS (qI f)) (lf (rwR (qL f))) e al l hd E2 → (entQ (lf (rwR (qL f))) nu nm (ec M0 x) E2 i ↔ entQ (lf (rwR (qL f))) nu nm (ec M0 x) E 0) → fm_X (d + 4) kd213 31 [some (fx 3), some (gr a), some (fx 100), some (ti 1), some (ti (fe M0 x)), some (ti (fe M0 x + i)), y6] [] (sh, M1, nx, zl) K := by
    intro E2
    induction E2 with
    | nil =>
      intro i M1 al l hd y6 hi f1 hv hh hal hl hE2 hiff
      obtain ⟨x1, x2⟩ : al = e ∧ l = 0 := hE2
      have hL1 := ltC_to hL (M2 := M1) (fun c hc => f1 c (by omega))
      have u10 : M1 a 10 = (ec M0 x : Nat) := by rw [f1 a (by omega)]; exact e10
      have NN : ∀ hd2 a3 l2 : Int, ¬ nxH (rwS (qI f)) (lf (rwR (qL f))) e al l hd hd2 a3 l2 := fun hd2 a3 l2 q => by
        rcases q with q | q
        · exact q.1 x2
        · have := q.2.1.1
          omega
      refine s213_31 (d + 4) K _ _ _ ?_
      refine ⟨_, hS, ?_⟩
      refine ⟨by omega, fun w => ?_, fun w => ?_⟩
      · have ei : i = ec M0 x := by omega
        refine ⟨by omega, fun w2 => by omega, fun _ => ?_⟩
        refine next_Y (d := d + 1) (hd := hd) hL1 hv.1 hv.2.1 hv.2.2 hh (by omega) (by omega) hl (fun M3 _ o3 _ _ _ => ?_) (fun M3 hd3 a3 l3 m1 _ _ _ _ _ => absurd m1 (NN hd3 a3 l3))
        refine ⟨by omega, fun _ => ⟨Or.inl rfl, k M3 0 (fun c hc => (o3 c hc).trans (f1 c hc)) (Or.inl ⟨rfl, hiff.1 ei⟩)⟩, fun w2 => absurd rfl w2⟩
      · obtain ⟨-, -, r, rb, e14, hD⟩ := TM.2.2.2.1 (fe M0 x + i) (by omega) (by rw [hz.1 168 (by omega)]; omega)
        have f14 : M1 14 (fe M0 x + i) = r := by rw [f1 14 (by omega)]; exact e14
        refine ⟨by omega, fun m hm2 => ?_, fun hm2 => by omega⟩
        refine ⟨by omega, fun w2 => by omega, fun _ => ?_⟩
        refine next_Y (d := d + 1) (hd := hd) hL1 hv.1 hv.2.1 hv.2.2 hh (by omega) (by omega) hl (fun M3 _ o3 _ _ _ => ?_) (fun M3 hd3 a3 l3 m1 _ _ _ _ _ => absurd m1 (NN hd3 a3 l3))
        refine ⟨by omega, fun _ => ?_, fun w2 => absurd rfl w2⟩
        have F := L0 (ec M0 x + 1) (i + 1) M3 (some (gr m)) (by omega) (by omega) (fun c hc => (o3 c hc).trans (f1 c hc)) (fun q => by
          have : i = ec M0 x := hiff.2 q
          omega)
        rw [show fe M0 x + ((i + 1 : Nat) : Int) = fe M0 x + i + 1 by omega] at F
        exact F
    | cons q E2 ih =>
      intro i M1 al l hd y6 hi f1 hv hh hal hl hE2 hiff
      obtain ⟨hd2, a3⟩ := q
      obtain ⟨l2, n1, n2, n3⟩ := hE2
      dsimp only at n1 n2 n3
      have hL1 := ltC_to hL (M2 := M1) (fun c hc => f1 c (by omega))
      have u10 : M1 a 10 = (ec M0 x : Nat) := by rw [f1 a (by omega)]; exact e10
      have l6 := le_nn (lf (rwR (qL f))) 2 (a3 + 6)
      have E1 := n2.1
      have E1b := n2.2
      have na := nxH_r n1
      have hl2 : 1 ≤ l2 ∧ l2 ≤ 256 := by
        rcases n1 with z | z
        · omega
        · have z2 := z.2.1.2.1
          have z3 := le_nn (lf (rwR (qL f))) 4 al
          omega
      refine s213_31 (d + 4) K _ _ _ ?_
      refine ⟨_, hS, ?_⟩
      refine ⟨by omega, fun w => ?_, fun w => ?_⟩
      · have ei : i = ec M0 x := by omega
        refine ⟨by omega, fun w2 => by omega, fun _ => ?_⟩
        refine next_Y (d := d + 1) (hd := hd) hL1 hv.1 hv.2.1 hv.2.2 hh (by omega) (by omega) hl (fun M3 no _ _ _ _ => absurd n2 (no hd2 a3 l2 n1)) (fun M3 hd3 a4 l3 m1 m2 o3 s3 t3 hc3 => ?_)
        refine ⟨by omega, fun w2 => by omega, fun _ => ⟨Or.inr rfl, k M3 1 (fun c hc => (o3 c hc).trans (f1 c hc)) (Or.inr ⟨rfl, fun q => ?_⟩)⟩⟩
        have := (hiff.2 q).1.1
        omega
      · have inn : i < ec M0 x := by omega
        obtain ⟨-, -, r, rb, e14, hD⟩ := TM.2.2.2.1 (fe M0 x + i) (by omega) (by rw [hz.1 168 (by omega)]; omega)
        have f14 : M1 14 (fe M0 x + i) = r := by rw [f1 14 (by omega)]; exact e14
        refine ⟨by omega, fun m hm2 => ?_, fun hm2 => by omega⟩
        have emr : m = r := by omega
        rw [emr]
        refine ⟨by omega, fun w2 => by omega, fun _ => ?_⟩
        refine next_Y (d := d + 1) (hd := hd) hL1 hv.1 hv.2.1 hv.2.2 hh (by omega) (by omega) hl (fun M3 no _ _ _ _ => absurd n2 (no hd2 a3 l2 n1)) (fun M3 hd3 a4 l3 m1 m2 o3 s3 t3 hc3 => ?_)
        obtain ⟨u1, u2, u3⟩ := nxH_one m1 n1
        rw [u2, u3] at s3
        rw [u2] at t3
        rw [u1] at hc3
        have f3 : ∀ c : Nat, c ≠ 100 → M3 c = M c := fun c hc => (o3 c hc).trans (f1 c hc)
        have hL3 := ltC_to hL (M2 := M3) (fun c hc => f3 c (by omega))
        refine ⟨by omega, fun w2 => by omega, fun _ => ?_⟩
        refine child_Y (d := d + 2) hL3 hc3 t3.2.2 (by omega) n2 (by omega) (fun cr => ?_)
        obtain ⟨uu, vv, hSc, hc3b, hc11, hEc⟩ := ce_of (x := x) hT inn
        have e13 : M3 13 (fe M0 x + i) = (ceC M0 x i : Nat) := by
          rw [f3 13 (by omega), hz.1 13 (by omega), (hT.2.2.2.1 (fe M0 x + i) (by omega) (by omega)).2.1]
          exact hc11
        refine ⟨by omega, fun m3 hm3 => ?_, fun hm3 => by omega⟩
        have em3 : m3 = ceC M0 x i := by omega
        rw [em3]
        refine ⟨_, hSc, ?_⟩
        have n14 := hnu i inn
        have v14 : M3 (ceC M0 x i) 14 = nu i := by rw [f3 _ (by omega), n14.1, hnu2]
        have nur : 0 ≤ nu i ∧ nu i ≤ 2000 := by
          rw [hnu2]
          exact ⟨n14.2.2, n14.2.1⟩
        rw [v14]
        have DIF : ¬ (chd (lf (rwR (qL f))) hd2 a3 = nu i ∧ nmS (lf (rwR (qL f))) a3 = nm i) → b213_110 (d + 4) (fW (d + 4) kd213 K) K [some (fx 3), some (gr a), some (fx 100), some (ti 1), some (ti (fe M0 x)), some (ti (fe M0 x + i)), some (gr r)] [] (sh, M3, nx, zl) := by
          intro hd3
          have F := L0 (ec M0 x + 1) (i + 1) M3 (some (gr r)) (by omega) (by omega) f3 (fun q => hd3 (hiff.2 q).1.2)
          rw [show fe M0 x + ((i + 1 : Nat) : Int) = fe M0 x + i + 1 by omega] at F
          exact F
        refine ⟨by omega, ?_⟩
        refine ⟨by omega, fun w2 => DIF (fun q => w2 q.1), fun w2 => ?_⟩
        obtain ⟨⟨s1, s2⟩, ⟨r1, r2, r3⟩, r4, r5, r6⟩ := hD
        refine ⟨_, s1, ?_⟩
        refine ⟨_, s1, ?_⟩
        have w5 : M3 r 1 = (nmL M (fe M0 x + i)).length := by rw [f3 r (by omega)]; exact r5
        refine m195 [fx 100, gr rb, ti 0, ti (M3 r 1)] ?_
        refine order_I (a := 112) (na := 65536) (b := rb) (nb := (nmL M (fe M0 x + i)).length) rfl s2 (by omega) (by omega) (by omega) (by omega) (by omega) (by omega) (by omega) (by omega) ?_
        have eA : sl (M3 112) (M3 100 10) (M3 100 11).toNat = nmS (lf (rwR (qL f))) a3 := by
          rw [t3.1, t3.2.1, f3 112 (by omega)]
          unfold nmS
          exact sl_agr ag (by omega) (by omega)
        have eB : sl (M3 rb) 0 (M3 r 1).toNat = nm i := by
          rw [w5, Int.toNat_natCast, f3 rb (by omega), r6, hnm]
          show nmL M (fe M0 x + i) = nmL M0 (fe M0 x + i)
          unfold nmL
          rw [hz.1 185 (by omega), hz.1 186 (by omega), hz.1 187 (by omega)]
        rw [eA, eB]
        have oq := ordL_eq (nmS (lf (rwR (qL f))) a3) (nm i)
        have orr := ordL_sl (M3 112) (M3 rb) (M3 100 10) 0 (M3 100 11).toNat (M3 r 1).toNat
        rw [eA, eB] at orr
        refine ⟨by omega, fun w3 => ?_, fun w3 => ?_⟩
        · refine ⟨Or.inl rfl, ?_⟩
          refine ⟨by omega, fun _ => DIF (fun q => w3 (oq.2 q.2)), fun w4 => absurd rfl w4⟩
        · refine ⟨Or.inr rfl, ?_⟩
          refine ⟨by omega, fun w4 => by omega, fun _ => ?_⟩
          have F := ih (i + 1) M3 (a3 + 9 + le (lf (rwR (qL f))) (a3 + 6) 2) (l2 - 1) hd2 (some (gr r)) (by omega) f3 ⟨s3.2.1, s3.2.2.1, s3.2.2.2⟩ (fun _ => hc3) (by omega) (by omega) n3 ⟨fun q => hiff.1 ⟨⟨inn, w2, oq.1 w3⟩, q⟩, fun q => (hiff.2 q).2⟩
          rw [show fe M0 x + ((i + 1 : Nat) : Int) = fe M0 x + i + 1 by omega] at F
          exact F
  refine m213 [fx 3, gr a] ?_
  refine ⟨_, hS, ?_⟩
  rw [h14]
  refine open_Y (d := d) hL hj hk (fun M2 o2 no => absurd li.1 (no b e)) (fun M2 b2 e2 o2 hop hv => ?_)
  obtain ⟨x1, x2⟩ := opP_one hsh li.1 hop
  rw [x1, x2] at hv
  obtain ⟨v3, v4, v5, v7⟩ := hv
  refine first_Y (d := d + 1) (F := x) (treeR_same TM (fun c hc => o2 c (by omega)) (fun i _ _ => by rw [o2 168 (by omega)])) hS (by rw [o2 a (by omega), hz.2.2 a 0 ha3 (by decide)]; exact hE.1) (by omega) ?_
  rw [fx1 M2 o2]
  have F := L1 E 0 M2 b 0 0 none (by omega) o2 ⟨v4, v5, v7⟩ (fun q => absurd rfl q) (by omega) (by omega) li.2.1.1 Iff.rfl
  rw [show fe M0 x + ((0 : Nat) : Int) = fe M0 x by omega] at F
  exact F
end CSTRAY
