/-! FREEZING: what was frozen is read back: numbers, kinds, parents -/
def flatB : List (Int × List Int) → List Int
  | [] => []
  | e :: r => e.2 ++ flatB r
theorem flatB_app : ∀ A B : List (Int × List Int), flatB (A ++ B) = flatB A ++ flatB B
  | [], _ => rfl
  | e :: r, B => by
    show e.2 ++ flatB (r ++ B) = e.2 ++ flatB r ++ flatB B
    rw [flatB_app r B, List.append_assoc]
/-- the row of inodes is inodes -/
def rowQ (M0 : FM) (ids L : List Int) (D : DS) (s : RS) : Prop := ∃ O : List (Int × List Int), rI s = flatB O ∧ ∀ e ∈ O, nodB M0 ids L D e.1 e.2
section READBACK
variable {sh : Nat → Option Shp} {M0 : FM} {op z : Int} {B : Nat} {L ids : List Int} {D : DS}
theorem rowQ_add {s t : RS} {y : Int} {Y : List Int} (h : rowQ M0 ids L D s) (e : rI t = rI s ++ Y) (hY : nodB M0 ids L D y Y) : rowQ M0 ids L D t := by
  obtain ⟨O, h1, h2⟩ := h
  refine ⟨O ++ [(y, Y)], ?_, fun q hq => ?_⟩
  · rw [e, h1, flatB_app]
    show flatB O ++ Y = flatB O ++ (Y ++ [])
    rw [List.append_nil]
  · rcases List.mem_append.1 hq with w | w
    · exact h2 q w
    · rw [List.mem_singleton.1 w]
      exact hY
theorem rsD_row (hT : treeR sh M0) (hs : sxC M0 op B L ids D) : ∀ (f : Nat) (x δ : Int) (a : Nat), x ∈ L → M0 171 x = 1 → M0 11 x = a → M0 a 4 = δ → (f : Int) + δ = 101 → ∀ (o : Option RS) (s : RS), rsD M0 z ids L D f x o = some s → (∀ s0 : RS, o = some s0 → rowQ M0 ids L D s0) → rowQ M0 ids L D s ∧ 0 ≤ rP s x := by
  obtain ⟨hW, hop, hB, hP, ⟨-, hcl⟩, -, -, -⟩ := hs
  intro f
  induction f with
  | zero =>
    intro x δ a hx h1 ha hδ hf
    obtain ⟨a2, h9, t9, ea, hS, ha3, hE, -, -, hD⟩ := nd_of hT (hP.2 x hx)
    have ea2 : a2 = a := by omega
    rw [ea2] at hD
    have := (hD.2 h1).1
    omega
  | succ f IH =>
    intro x δ a hx h1 ha hδ hf o s h ho
    have er := fe_r hT.1 x
    have KP : ∀ (n : Nat) (s1 : RS), n ≤ ec M0 x → rsK M0 (rsD M0 z ids L D f) (fe M0 x) n o = some s1 → rowQ M0 ids L D s1 ∧ ∀ t : Nat, t < n → M0 171 (M0 184 (fe M0 x + t)) = 1 → 0 ≤ rP s1 (M0 184 (fe M0 x + t)) := by
      intro n
      induction n with
      | zero =>
        intro s1 _ h2
        exact ⟨ho s1 h2, fun t ht => by omega⟩
      | succ n ih =>
        intro s1 hn h2
        unfold rsK at h2
        by_cases c : M0 171 (M0 184 (fe M0 x + n)) = 1
        · rw [if_pos c] at h2
          obtain ⟨e178, ypos, dep, dep2⟩ := dir_kid hT ha (by omega : n < ec M0 x) c
          obtain ⟨u1, v1, hSc, hc3, hc11, hEc⟩ := ce_of (x := x) hT (by omega : n < ec M0 x)
          obtain ⟨s2, b1, b2, b3⟩ := rsD_P _ _ _ s1 h2
          obtain ⟨c1, c2⟩ := ih s2 (by omega) b1
          obtain ⟨q1, q2⟩ := IH (M0 184 (fe M0 x + n)) (δ + 1) (ceC M0 x n) (hcl x hx n (by omega)) c hc11 (by omega) (by omega) _ s1 h2 (fun s0 hs0 => by
            rw [b1] at hs0
            rw [← Option.some.inj hs0]
            exact c1)
          refine ⟨q1, fun t ht hk => ?_⟩
          by_cases e : t = n
          · rw [e]
            exact q2
          · exact b2 _ (c2 t (by omega) hk)
        · rw [if_neg c] at h2
          obtain ⟨c1, c2⟩ := ih s1 (by omega) h2
          refine ⟨c1, fun t ht hk => ?_⟩
          by_cases e : t = n
          · rw [e] at hk
            exact absurd hk c
          · exact c2 t (by omega) hk
    have OP : ∀ (o1 : Option RS) (s1 : RS), o1 = some s1 → rowQ M0 ids L D s1 → (∀ t : Nat, t < ec M0 x → M0 171 (M0 184 (fe M0 x + t)) = 1 → 0 ≤ rP s1 (M0 184 (fe M0 x + t))) → ∀ (n : Nat) (s2 : RS), n ≤ ec M0 x → rsOt M0 ids L D (fe M0 x) n o1 = some s2 → rowQ M0 ids L D s2 := by
      intro o1 s1 e1 r1 d1 n
      induction n with
      | zero =>
        intro s2 _ h2
        have h3 : o1 = some s2 := h2
        rw [e1] at h3
        rw [← Option.some.inj h3]
        exact r1
      | succ n ih =>
        intro s2 hn h2
        have h3 : (rsOt M0 ids L D (fe M0 x) n o1).bind (fun s => if rP s (M0 184 (fe M0 x + n)) < 0 then rput s (M0 184 (fe M0 x + n)) (nnB M0 ids L D (M0 184 (fe M0 x + n))) else some s) = some s2 := h2
        cases hr : rsOt M0 ids L D (fe M0 x) n o1 with
        | none =>
          rw [hr] at h3
          cases h3
        | some s3 =>
          rw [hr] at h3
          have r3 := ih s3 (by omega) hr
          obtain ⟨s0, a1, a2, a3⟩ := rsOt_P _ _ _ s3 hr
          rw [e1] at a1
          have h4 : (if rP s3 (M0 184 (fe M0 x + n)) < 0 then rput s3 (M0 184 (fe M0 x + n)) (nnB M0 ids L D (M0 184 (fe M0 x + n))) else some s3) = some s2 := h3
          by_cases c : rP s3 (M0 184 (fe M0 x + n)) < 0
          · rw [if_pos c] at h4
            unfold rput at h4
            have kd : M0 171 (M0 184 (fe M0 x + n)) ≠ 1 := fun q => by
              have w1 := d1 n (by omega) q
              rw [Option.some.inj a1] at w1
              have := a2 _ w1
              omega
            split at h4
            · rw [← Option.some.inj h4]
              exact rowQ_add r3 rfl ⟨hcl x hx n (by omega), Or.inl ⟨kd, rfl⟩⟩
            · cases h4
          · rw [if_neg c] at h4
            rw [← Option.some.inj h4]
            exact r3
    have h2 : rsF M0 z ids L x (rsOt M0 ids L D (fe M0 x) (ec M0 x) (rsK M0 (rsD M0 z ids L D f) (fe M0 x) (ec M0 x) o)) = some s := h
    obtain ⟨s2, c1, c2, c3⟩ := rsF_P h2
    obtain ⟨s1, b1, b2, b3⟩ := rsOt_P _ _ _ s2 c1
    obtain ⟨k1, k2⟩ := KP _ s1 (Nat.le_refl _) b1
    have r2 := OP _ s1 b1 k1 k2 _ s2 (Nat.le_refl _) c1
    refine ⟨?_, c3⟩
    rw [c1] at h2
    have h3 : (if (lsC (ngE M0 z L s2 x) (ngT M0 z L s2 x)).length ≤ 65536 ∧ (rI s2).length + (fnB M0 z ids L s2 x).length ≤ 65536 then some (rI s2 ++ fnB M0 z ids L s2 x, lsC (ngE M0 z L s2 x) (ngT M0 z L s2 x), upP (rP s2) x (rI s2).length) else none : Option RS) = some s := h2
    split at h3
    · rename_i fits
      rw [← Option.some.inj h3]
      obtain ⟨i1, i2, i3, i4, i5, i6⟩ := lsS_I z (ngE M0 z L s2 x) (rQ s2) (ec M0 x)
      have lA1 := lsC_A (ngE M0 z L s2 x) (ngT M0 z L s2 x)
      have i5' : (lX (ngT M0 z L s2 x)).length + (rQ s2).length / 8192 ≤ (lA (ngT M0 z L s2 x)).length / 8192 := i5
      have f1 := fits.1
      refine rowQ_add (y := x) r2 rfl ⟨hx, Or.inr ⟨h1, ngE M0 z L s2 x, lX (ngT M0 z L s2 x), _, _, _, _, by omega, fun p hp => ?_, rfl⟩⟩
      have ip := (i6 p hp).2.2
      have e := (hT.1.2.2.2.1.2 (fe M0 x + p.2.2) (by omega) (by omega)).2.2.1
      have en : lnm (ngE M0 z L s2 x p.2.2) = nmL M0 (fe M0 x + p.2.2) := rfl
      rw [en]
      unfold nmL
      rw [sl_len]
      exact ⟨by omega, sl_by _ _ _⟩
    · cases h3
/-- what an inode that begins at p, of number v, is -/
def blkAt (M0 : FM) (L : List Int) (g : Int → Int) (p v : Int) : Prop := ∃ y ∈ L, nuO L y = v ∧ kdT (le g p 2) = M0 171 y ∧ (M0 171 y = 1 → le g (p + 28) 4 = paN M0 L y)
theorem inG_blk (hs : sxC M0 op B L ids D) (hf : ∀ y ∈ L, M0 171 y = 2 → frQ op B D (M0 180 y) y) {O : List (Int × List Int)} (hO : ∀ e ∈ O, nodB M0 ids L D e.1 e.2) {g : Int → Int} {N id2 F n : Int} (hg : sl g 0 (flatB O).length = flatB O) (hN : N = (flatB O).length) {pl h : Int → Int} : ∀ (G k : Nat) (c : Int) (pl0 h0 : Int → Int), k ≤ O.length → (∀ x : Int, h0 x ≠ 0 → blkAt M0 L g x (h0 x)) → inG g N B id2 F n G ((flatB (O.take k)).length : Nat) c pl0 h0 = some (pl, h) → ∀ x : Int, h x ≠ 0 → blkAt M0 L g x (h x) := by
  intro G
  induction G with
  | zero =>
    intro k c pl0 h0 hk H0 hi
    cases hi
  | succ G ih =>
    intro k c pl0 h0 hk H0 hi
    unfold inG at hi
    by_cases q : N ≤ ((flatB (O.take k)).length : Nat)
    · rw [if_pos q] at hi
      split at hi
      · have e := Option.some.inj hi
        have e2 : h0 = h := congrArg Prod.snd e
        rw [← e2]
        exact H0
      · cases hi
    · rw [if_neg q] at hi
      have lk : k < O.length := by
        by_cases c2 : k < O.length
        · exact c2
        · rw [List.take_of_length_le (by omega)] at q
          omega
      obtain ⟨e, he⟩ : ∃ e, O[k]? = some e := ⟨_, List.getElem?_eq_getElem lk⟩
      have eO : O = O.take k ++ (e :: O.drop (k + 1)) := by
        have d : O.drop k = e :: O.drop (k + 1) := by
          rw [List.drop_eq_getElem_cons lk]
          have : O[k] = e := by
            rw [List.getElem?_eq_getElem lk] at he
            exact Option.some.inj he
          rw [this]
        rw [← d, List.take_append_drop]
      have hb := hO e (List.mem_of_getElem? he)
      have eF : flatB O = flatB (O.take k) ++ (e.2 ++ flatB (O.drop (k + 1))) := by
        have := congrArg flatB eO
        rw [flatB_app] at this
        exact this
      have hgY := sl_mid hg eF
      obtain ⟨p1, p2, p3, p4, p5⟩ := nodB_P (N := N) (F := F) (id2 := id2) hs hf hb hgY
      by_cases cc : 0 ≤ iE g N B id2 F ((flatB (O.take k)).length : Nat) ∧ (1 ≤ le g (((flatB (O.take k)).length : Nat) + 12) 4 ∧ le g (((flatB (O.take k)).length : Nat) + 12) 4 ≤ n) ∧ pl0 (le g (((flatB (O.take k)).length : Nat) + 12) 4) < 0
      · rw [cif_pos cc] at hi
        have et : O.take (k + 1) = O.take k ++ [e] := by
          rw [List.take_add_one, he]
          rfl
        have ep : (((flatB (O.take k)).length : Nat) : Int) + (e.2.length : Nat) = ((flatB (O.take (k + 1))).length : Nat) := by
          rw [et, flatB_app, List.length_append]
          show _ = (((flatB (O.take k)).length + (e.2 ++ ([] : List Int)).length : Nat) : Int)
          rw [List.append_nil]
          omega
        rw [p3 cc.1, ep] at hi
        refine ih (k + 1) _ _ _ (by omega) (fun x hx => ?_) hi
        by_cases ex : x = ((flatB (O.take k)).length : Nat)
        · rw [ex, ur_at, p1]
          exact ⟨e.1, hb.1, rfl, p2, p4⟩
        · rw [ur_ne ex] at hx ⊢
          exact H0 x hx
      · rw [cif_neg cc] at hi
        cases hi
end READBACK
/-- the image's head and its rows of inodes -/
theorem fz_head {f : Int → Int} {z op B lg wh nL ia r0 : Int} {X1 U E ids : List Int} {T : List (Int × Int)} {X : List Int} (hX : X = fIM z op B lg wh nL ia r0 X1 U E ids T) (h : sl f 0 X.length = X) (hB : 0 ≤ B ∧ B ≤ 100000) (hn : 0 ≤ nL ∧ nL ≤ 2000) (hia : 0 ≤ ia ∧ ia ≤ 131072) (h1 : X1.length ≤ 131072) : le f 4 4 = nL ∧ le f 12 4 = B ∧ s64 (le f 64 8) = ia ∧ s64 (le f 72 8) = X1.length ∧ sl f 96 ((tX5 z (tX4 z op (tX3 z (X1 ++ U) T) E) ids).drop 96).length = (tX5 z (tX4 z op (tX3 z (X1 ++ U) T) E) ids).drop 96 := by
  obtain ⟨X5, h5⟩ : ∃ X5, X5 = tX5 z (tX4 z op (tX3 z (X1 ++ U) T) E) ids := ⟨_, rfl⟩
  unfold fIM hdZ hdA at hX
  rw [← h5] at hX ⊢
  simp only [List.append_assoc] at hX
  rw [hX] at h
  obtain ⟨-, h⟩ := peel h
  obtain ⟨a1, h⟩ := peel h
  obtain ⟨-, h⟩ := peel h
  obtain ⟨a3, h⟩ := peel h
  obtain ⟨-, h⟩ := peel h
  obtain ⟨-, h⟩ := peel h
  obtain ⟨-, h⟩ := peel h
  obtain ⟨-, h⟩ := peel h
  obtain ⟨-, h⟩ := peel h
  obtain ⟨-, h⟩ := peel h
  obtain ⟨-, h⟩ := peel h
  obtain ⟨-, h⟩ := peel h
  obtain ⟨-, h⟩ := peel h
  obtain ⟨-, h⟩ := peel h
  obtain ⟨-, h⟩ := peel h
  obtain ⟨a15, h⟩ := peel h
  obtain ⟨a16, h⟩ := peel h
  obtain ⟨-, h⟩ := peel h
  obtain ⟨-, h⟩ := peel h
  have v1 := le_leL a1
  have v3 := le_leL a3
  have v15 := le_l8 a15
  have v16 := le_l8 a16
  rw [show (0 : Int) + ((4 : Nat) : Int) = 4 by omega] at v1
  rw [show (0 : Int) + ((4 : Nat) : Int) + ((4 : Nat) : Int) + ((4 : Nat) : Int) = 12 by omega] at v3
  rw [show (0 : Int) + ((4 : Nat) : Int) + ((4 : Nat) : Int) + ((4 : Nat) : Int) + ((4 : Nat) : Int) + ((4 : Nat) : Int) + ((2 : Nat) : Int) + ((2 : Nat) : Int) + ((2 : Nat) : Int) + ((2 : Nat) : Int) + ((2 : Nat) : Int) + ((2 : Nat) : Int) + ((8 : Nat) : Int) + ((8 : Nat) : Int) + ((8 : Nat) : Int) + ((8 : Nat) : Int) = 64 by omega] at v15
  rw [show (0 : Int) + ((4 : Nat) : Int) + ((4 : Nat) : Int) + ((4 : Nat) : Int) + ((4 : Nat) : Int) + ((4 : Nat) : Int) + ((2 : Nat) : Int) + ((2 : Nat) : Int) + ((2 : Nat) : Int) + ((2 : Nat) : Int) + ((2 : Nat) : Int) + ((2 : Nat) : Int) + ((8 : Nat) : Int) + ((8 : Nat) : Int) + ((8 : Nat) : Int) + ((8 : Nat) : Int) + ((8 : Nat) : Int) = 72 by omega] at v16
  rw [show (0 : Int) + ((4 : Nat) : Int) + ((4 : Nat) : Int) + ((4 : Nat) : Int) + ((4 : Nat) : Int) + ((4 : Nat) : Int) + ((2 : Nat) : Int) + ((2 : Nat) : Int) + ((2 : Nat) : Int) + ((2 : Nat) : Int) + ((2 : Nat) : Int) + ((2 : Nat) : Int) + ((8 : Nat) : Int) + ((8 : Nat) : Int) + ((8 : Nat) : Int) + ((8 : Nat) : Int) + ((8 : Nat) : Int) + ((8 : Nat) : Int) + ((8 : Nat) : Int) + ((8 : Nat) : Int) = 96 by omega] at h
  refine ⟨by rw [v1]; omega, by rw [v3]; omega, ?_, ?_, h⟩
  · rw [v15]
    unfold s64
    omega
  · rw [v16]
    unfold s64
    omega
theorem tX_pre (z op : Int) (X1 U E ids : List Int) (T : List (Int × Int)) : ∃ Z : List Int, tX5 z (tX4 z op (tX3 z (X1 ++ U) T) E) ids = X1 ++ Z := by
  have h3 : ∃ Z : List Int, tX3 z (X1 ++ U) T = X1 ++ Z := by
    unfold tX3
    split
    · exact ⟨U, rfl⟩
    · exact ⟨U ++ tbT z (X1 ++ U).length (tbB T), by rw [List.append_assoc]⟩
  obtain ⟨Z3, e3⟩ := h3
  have h4 : ∃ Z : List Int, tX4 z op (tX3 z (X1 ++ U) T) E = X1 ++ Z := by
    unfold tX4
    split
    · exact ⟨Z3, e3⟩
    · exact ⟨Z3 ++ tbT z (tX3 z (X1 ++ U) T).length E, by rw [e3, List.append_assoc]⟩
  obtain ⟨Z4, e4⟩ := h4
  unfold tX5
  exact ⟨Z4 ++ tbT z (tX4 z op (tX3 z (X1 ++ U) T) E).length (idB ids), by rw [e4, List.append_assoc]⟩
section READBACK2
variable {sh : Nat → Option Shp} {M0 : FM} {op lg wh : Int} {B : Nat} {s : RS}
/-- where the image holds, numbers, kinds and parents are those of the tree -/
theorem fz_back (hT : treeR sh M0) (rop : 0 ≤ op ∧ op ≤ 15) (hB : bB5 B) (hs : fzO M0 op B = some s) {f : Int → Int} (h : sl f 0 (fzX M0 lg op wh B s).length = fzX M0 lg op wh B s) (hl : (fzX M0 lg op wh B s).length ≤ 131072) (lT : (fzT M0 op B s).length ≤ 131072) (lI : (rI s).length ≤ 65536) (hO : ftO f (fzX M0 lg op wh B s).length) : le f 4 4 = (nuL M0).length ∧ ∀ (i : Nat) (x : Int), (nuL M0)[i]? = some x → kdQ f ((i : Int) + 1) = M0 171 x ∧ (M0 171 x = 1 → paF (lf (rwR (qI f))) (plf f) ((i : Int) + 1) = paN M0 (nuL M0) x) := by
  have hW := hT.1
  have hP : nuP M0 (nuL M0) := nuG_P hW 2000
  have LL := nuP_len hW hP
  have br := bB5_r hB
  have hsx := sx_of (op := op) hW rop hB
  obtain ⟨db1, db2, db3, db4, db5⟩ := dtE_b (op := op) (B := B) hW hP hB
  obtain ⟨D, hD⟩ : ∃ D : DS, D = dtE M0 op B (nuL M0) := ⟨_, rfl⟩
  obtain ⟨L, hL⟩ : ∃ L : List Int, L = nuL M0 := ⟨_, rfl⟩
  obtain ⟨ids, hids⟩ : ∃ ids : List Int, ids = idL M0 := ⟨_, rfl⟩
  have hs1 : rsD M0 (1 - op % 2) ids L D 101 0 (some rs0) = some s := by
    rw [hL, hids, hD]
    exact hs
  have hXe : fzX M0 lg op wh B s = fIM (1 - op % 2) op B lg wh L.length (dI D).length (fzR op s 0) (dI D ++ clG (1 - op % 2) (rI s) 0 (pcN (rI s).length)) (clG (1 - op % 2) (rQ s) 0 (pcN (rQ s).length)) (exL (fzR op s) L) ids (dT D) := by
    rw [hL, hids, hD]
    rfl
  have hTe : fzT M0 op B s = tX5 (1 - op % 2) (tX4 (1 - op % 2) op (tX3 (1 - op % 2) ((dI D ++ clG (1 - op % 2) (rI s) 0 (pcN (rI s).length)) ++ clG (1 - op % 2) (rQ s) 0 (pcN (rQ s).length)) (dT D)) (exL (fzR op s) L)) ids := by
    rw [hL, hids, hD]
    rfl
  rw [← hD, ← hL, ← hids] at hsx
  rw [← hD] at db1 db2 db3 db4 db5
  rw [← hL] at hP LL ⊢
  obtain ⟨Z, hZ⟩ := tX_pre (1 - op % 2) op (dI D ++ clG (1 - op % 2) (rI s) 0 (pcN (rI s).length)) (clG (1 - op % 2) (rQ s) 0 (pcN (rQ s).length)) (exL (fzR op s) L) ids (dT D)
  have l1 : (dI D ++ clG (1 - op % 2) (rI s) 0 (pcN (rI s).length)).length ≤ 131072 := by
    rw [hTe, hZ, List.length_append] at lT
    omega
  obtain ⟨v1, v2, v3, v4, v5⟩ := fz_head hXe h (by omega) (by omega) (by omega) l1
  refine ⟨v1, ?_⟩
  -- the bytes of the pieces
  have hpc : sl f (dI D).length (clG (1 - op % 2) (rI s) 0 (pcN (rI s).length)).length = clG (1 - op % 2) (rI s) 0 (pcN (rI s).length) := by
    rw [hZ, List.append_assoc, List.drop_append_of_le_length db4, List.length_append, sl_add] at v5
    have w := (List.append_inj v5 (by rw [sl_len])).2
    rw [List.length_append, sl_add] at w
    have w2 := (List.append_inj w (by rw [sl_len])).1
    rw [show (96 : Int) + (((dI D).drop 96).length : Nat) = ((dI D).length : Nat) by rw [List.length_drop]; omega] at w2
    exact w2
  -- the row is inodes
  have h0L := hsx.2.2.2.2.1.1
  obtain ⟨a, h9, t9, ea, hS, ha3, hE, -, -, hDd⟩ := nd_of hT (hP.2 0 h0L)
  have nN := hW.1.1
  have e4 := ((hDd.2 nN.2.2).2.1 rfl).2
  obtain ⟨⟨O, o1, o2⟩, -⟩ := rsD_row (z := 1 - op % 2) hT hsx 101 0 0 a h0L nN.2.2 ea e4 (by omega) _ s hs1 (fun s0 hs0 => ⟨[], by rw [← Option.some.inj hs0]; rfl, fun e he => absurd he List.not_mem_nil⟩)
  have byI : byR (rI s) := by
    have FB : ∀ P : List (Int × List Int), (∀ e ∈ P, nodB M0 ids L D e.1 e.2) → byR (flatB P) := by
      intro P
      induction P with
      | nil => exact fun _ y hy => absurd hy List.not_mem_nil
      | cons e r ih => exact fun hP => byR_app (nodB_by (hP e (List.mem_cons_self))) (ih (fun q hq => hP q (List.mem_cons_of_mem _ hq)))
    rw [o1]
    exact FB O o2
  obtain ⟨hsu, hpl, hrw, h4, h5, h6, h7, h8⟩ := hO
  have r1 : rdS f (s64 (le f 64 8)) (s64 (le f 72 8)) 8 = some (rwR (qI f), rwS (qI f)) := hrw.1.1
  rw [v3, v4, List.length_append, show (((dI D).length + (clG (1 - op % 2) (rI s) 0 (pcN (rI s).length)).length : Nat) : Int) = ((dI D).length : Int) + ((clG (1 - op % 2) (rI s) 0 (pcN (rI s).length)).length : Nat) by omega] at r1
  have eR := rd_clG byI lI hpc r1
  -- the walk along the inodes
  have i5 : inS (lf (rwR (qI f))) (rwR (qI f)).length (le f 12 4) (le f 26 2) (le f 16 4) (le f 4 4) = some (plf f, hf f) := h5.1
  have iv := inS_V (by rw [v2]; omega) (by omega) (by rw [v1]; omega) i5
  have hfr : ∀ y ∈ L, M0 171 y = 2 → frQ op B D (M0 180 y) y := fun y hy y2 => by
    obtain ⟨i, hi, ex⟩ := List.getElem_of_mem hy
    rw [hD, ← hL]
    exact dtE_g hW hP hB (i := i) (by rw [← ex]; exact List.getElem?_eq_getElem hi) y2
  have gO : sl (lf (rwR (qI f))) 0 (flatB O).length = flatB O := by
    rw [eR, ← o1]
    exact sl_self byI
  have BK : ∀ x : Int, hf f x ≠ 0 → blkAt M0 L (lf (rwR (qI f))) x (hf f x) := by
    unfold inS at i5
    rw [v2] at i5
    exact inG_blk hsx hfr o2 gO (by rw [eR, ← o1]) _ 0 0 _ _ (Nat.zero_le _) (fun x hx => absurd rfl hx) i5
  intro i x hx
  have li : i < L.length := (List.getElem?_eq_some_iff.1 hx).1
  obtain ⟨q1, q2, q3, q4⟩ := iv.1 ((i : Int) + 1) (by omega) (by rw [v1]; omega)
  have bk := BK (plf f ((i : Int) + 1)) (by rw [q3]; omega)
  rw [q3] at bk
  obtain ⟨y, y1, y2, y3, y4⟩ := bk
  obtain ⟨j, hj, ey⟩ := List.getElem_of_mem y1
  have hy : L[j]? = some y := by rw [← ey]; exact List.getElem?_eq_getElem hj
  rw [nu_at hP.1 hy] at y2
  have ej : j = i := by omega
  rw [ej, hx] at hy
  rw [← Option.some.inj hy] at y3 y4
  refine ⟨?_, fun h1 => y4 h1⟩
  show kdF (rwR (qI f)) (plf f) ((i : Int) + 1) = M0 171 x
  exact y3
end READBACK2
