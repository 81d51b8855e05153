/-! FREEZING: an inode's bytes are read as that inode -/
theorem peel {f : Int → Int} {p v : Int} {k : Nat} {Z : List Int} (h : sl f p (leL v k ++ Z).length = leL v k ++ Z) : sl f p k = leL v k ∧ sl f (p + (k : Int)) Z.length = Z := by
  rw [List.length_append, leL_len, sl_add] at h
  exact List.append_inj h (by rw [sl_len, leL_len])
theorem byR_app {A B : List Int} (h1 : byR A) (h2 : byR B) : byR (A ++ B) := fun x hx => by
  rcases List.mem_append.1 hx with y | y
  · exact h1 x y
  · exact h2 x y
theorem leL_by : ∀ (k : Nat) (v : Int), byR (leL v k)
  | 0, _ => fun x hx => absurd hx List.not_mem_nil
  | k + 1, v => fun x hx => by
    rcases List.mem_cons.1 hx with e | e
    · rw [e]
      omega
    · exact leL_by k (v / 256) x e
theorem sl_by (f : Int → Int) (a : Int) (n : Nat) : byR (sl f a n) := fun x hx => sl_rng n a x hx
theorem idB_by : ∀ l : List Int, byR (idB l)
  | [] => fun x hx => absurd hx List.not_mem_nil
  | v :: r => byR_app (leL_by 4 v) (idB_by r)
theorem cmL_by (ty mo oi gi t nu : Int) : byR (cmL ty mo oi gi t nu) := byR_app (leL_by _ _) (byR_app (leL_by _ _) (byR_app (leL_by _ _) (byR_app (leL_by _ _) (byR_app (leL_by _ _) (leL_by _ _)))))
/-- indexes walked -/
theorem iw_ix {g : Int → Int} {N : Int} {n : Nat → ENt} : ∀ (X : List (Int × Int × Nat)) (e : Int), (∀ p ∈ X, 1 ≤ (lnm (n p.2.2)).length ∧ (lnm (n p.2.2)).length ≤ 256) → sl g e (ixL n X).length = ixL n X → 0 ≤ iwG g N X.length e → iwG g N X.length e = e + (ixL n X).length
  | [], e, _, _, _ => by
    show e = e + ((0 : Nat) : Int)
    omega
  | p :: r, e, hn, h, h0 => by
    have hp := hn p (List.mem_cons_self)
    have e1 : ixL n (p :: r) = leL p.1 4 ++ (leL p.2.1 4 ++ (leL (((lnm (n p.2.2)).length : Int) - 1) 4 ++ (lnm (n p.2.2) ++ ixL n r))) := by
      show ixB p.1 p.2.1 (lnm (n p.2.2)) ++ ixL n r = _
      unfold ixB
      simp only [List.append_assoc]
    rw [e1] at h
    obtain ⟨-, h⟩ := peel h
    obtain ⟨-, h⟩ := peel h
    obtain ⟨h3, h⟩ := peel h
    have v3 := le_leL h3
    rw [show e + ((4 : Nat) : Int) + ((4 : Nat) : Int) = e + 8 by omega] at v3
    have hr : sl g (e + 12 + ((lnm (n p.2.2)).length : Nat)) (ixL n r).length = ixL n r := by
      rw [List.length_append, sl_add] at h
      have := (List.append_inj h (by rw [sl_len])).2
      rw [show e + ((4 : Nat) : Int) + ((4 : Nat) : Int) + ((4 : Nat) : Int) = e + 12 by omega] at this
      exact this
    have ev : le g (e + 8) 4 = ((lnm (n p.2.2)).length : Int) - 1 := by
      rw [v3]
      omega
    have lx : ((ixL n (p :: r)).length : Int) = 12 + ((lnm (n p.2.2)).length : Nat) + ((ixL n r).length : Nat) := by
      show ((ixB p.1 p.2.1 (lnm (n p.2.2)) ++ ixL n r).length : Int) = _
      rw [List.length_append, ixB_len]
      omega
    have hs : iwG g N (r.length + 1) e = if e + 12 ≤ N ∧ le g (e + 8) 4 ≤ 255 ∧ e + 13 + le g (e + 8) 4 ≤ N then iwG g N r.length (e + 13 + le g (e + 8) 4) else -1 := rfl
    have h0' : 0 ≤ iwG g N (r.length + 1) e := h0
    show iwG g N (r.length + 1) e = e + ((ixL n (p :: r)).length : Nat)
    rw [hs] at h0' ⊢
    by_cases c : e + 12 ≤ N ∧ le g (e + 8) 4 ≤ 255 ∧ e + 13 + le g (e + 8) 4 ≤ N
    · rw [if_pos c] at h0' ⊢
      rw [show e + 13 + le g (e + 8) 4 = e + 12 + ((lnm (n p.2.2)).length : Nat) by omega] at h0' ⊢
      rw [iw_ix r _ (fun q hq => hn q (List.mem_cons_of_mem _ hq)) hr h0', lx]
      omega
    · rw [if_neg c] at h0'
      omega
/-- an inode as it was put: of no directory, or of a directory -/
def nodB (M0 : FM) (ids L : List Int) (D : DS) (x : Int) (Y : List Int) : Prop := x ∈ L ∧ ((M0 171 x ≠ 1 ∧ Y = nnB M0 ids L D x) ∨ (M0 171 x = 1 ∧ ∃ (n : Nat → ENt) (X : List (Int × Int × Nat)) (sz st pl lk : Int), X.length ≤ 2000 ∧ (∀ p ∈ X, (1 ≤ (lnm (n p.2.2)).length ∧ (lnm (n p.2.2)).length ≤ 256) ∧ byR (lnm (n p.2.2))) ∧ Y = fdB (cmR M0 ids L x) X.length sz st pl (paN M0 L x) lk (ixL n X)))
theorem ixL_by {n : Nat → ENt} : ∀ X : List (Int × Int × Nat), (∀ p ∈ X, byR (lnm (n p.2.2))) → byR (ixL n X)
  | [], _ => fun x hx => absurd hx List.not_mem_nil
  | p :: r, h => byR_app (byR_app (leL_by _ _) (byR_app (leL_by _ _) (byR_app (leL_by _ _) (h p (List.mem_cons_self))))) (ixL_by r (fun q hq => h q (List.mem_cons_of_mem _ hq)))
section BLOCKS
variable {M0 : FM} {op : Int} {B : Nat} {L ids : List Int} {D : DS} {x : Int} {Y : List Int}
theorem nodB_by (h : nodB M0 ids L D x Y) : byR Y := by
  obtain ⟨-, h⟩ := h
  rcases h with ⟨-, e⟩ | ⟨-, n, X, sz, st, pl, lk, -, hX, e⟩
  · rw [e]
    unfold nnB
    split
    · unfold flB
      split
      · exact byR_app (cmL_by _ _ _ _ _ _) (byR_app (leL_by _ _) (byR_app (leL_by _ _) (byR_app (leL_by _ _) (byR_app (leL_by _ _) (byR_app (leL_by _ _) (byR_app (leL_by _ _) (byR_app (leL_by _ _) (idB_by _))))))))
      · exact byR_app (cmL_by _ _ _ _ _ _) (byR_app (leL_by _ _) (byR_app (leL_by _ _) (byR_app (leL_by _ _) (byR_app (leL_by _ _) (idB_by _)))))
    · refine byR_app (cmL_by _ _ _ _ _ _) (byR_app (leL_by _ _) ?_)
      unfold otB
      split
      · exact byR_app (leL_by _ _) (sl_by _ _ _)
      · split
        · exact leL_by _ _
        · exact fun y hy => absurd hy List.not_mem_nil
  · rw [e]
    unfold fdB
    split
    · exact byR_app (cmL_by _ _ _ _ _ _) (byR_app (leL_by _ _) (byR_app (leL_by _ _) (byR_app (leL_by _ _) (byR_app (leL_by _ _) (byR_app (leL_by _ _) (byR_app (leL_by _ _) (byR_app (leL_by _ _) (ixL_by X (fun p hp => (hX p hp).2)))))))))
    · exact byR_app (cmL_by _ _ _ _ _ _) (byR_app (leL_by _ _) (byR_app (leL_by _ _) (byR_app (leL_by _ _) (byR_app (leL_by _ _) (leL_by _ _)))))
theorem iE_ok {g : Int → Int} {N B ids F p : Int} (h : 0 ≤ iE g N B ids F p) : iE g N B ids F p = bodE g N B F p := by
  unfold iE at *
  by_cases c : hdP g N ids p
  · rw [cif_pos c]
  · rw [cif_neg c] at h
    omega
theorem flE_ok {g : Int → Int} {N B F n f o a : Int} (h : 0 ≤ flE g N B F n f o a) : flE g N B F n f o a = a + 4 * bcN B n f := by
  unfold flE at *
  by_cases c : flP g N B F n f o a
  · rw [cif_pos c]
  · rw [cif_neg c] at h
    omega
/-- blocks told are the blocks there are -/
theorem bc_bk (hB : bB5 B) (hop : 0 ≤ op ∧ op ≤ 15) {n fr : Int} (hn : 0 ≤ n) (h0 : rsN op B n = 0 → fr = -1) (h1 : rsN op B n ≠ 0 → 0 ≤ fr ∧ fr ≤ 200000) : bcN B n (fr % 4294967296) = bkN op B n := by
  unfold bcN bkN
  unfold rsN at *
  have br := bB5_r hB
  by_cases c : op / 4 % 2 = 0
  · rw [if_pos c] at h0 h1 ⊢
    by_cases q : n % (B : Int) = 0
    · have e := h0 q
      rw [e, q, if_neg (by omega)]
      rcases hB with b | b | b | b | b <;> (rw [b] at q ⊢; omega)
    · have e := h1 q
      rw [if_neg (by omega)]
      rcases hB with b | b | b | b | b <;> (rw [b] at q ⊢; omega)
  · rw [if_neg c] at h0 h1 ⊢
    have e := h0 rfl
    rw [e]
    by_cases q : 0 < n % (B : Int)
    · rw [if_pos ⟨by omega, q⟩]
      rcases hB with b | b | b | b | b <;> (rw [b] at q ⊢; omega)
    · rw [if_neg (fun w => q w.2)]
      rcases hB with b | b | b | b | b <;> (rw [b] at q ⊢; omega)
/-- what is read of an inode that was put -/
theorem nodB_P (hs : sxC M0 op B L ids D) (hf : ∀ y ∈ L, M0 171 y = 2 → frQ op B D (M0 180 y) y) (h : nodB M0 ids L D x Y) {g : Int → Int} {N F p id2 : Int} (hg : sl g p Y.length = Y) : le g (p + 12) 4 = nuO L x ∧ kdT (le g p 2) = M0 171 x ∧ (0 ≤ iE g N B id2 F p → iE g N B id2 F p = p + (Y.length : Nat)) ∧ (M0 171 x = 1 → le g (p + 28) 4 = paN M0 L x) ∧ 0 < Y.length := by
  obtain ⟨hW, hop, hB, hP, -, -, ⟨b1, b2, b3⟩, hF⟩ := hs
  obtain ⟨hx, h⟩ := h
  have xr := (hP.2 x hx).1
  have kr := (hW.1.2 x xr.1 xr.2).1
  have tb := hW.2.1.2 x xr.1 xr.2
  have tb1 := hW.2.1.1
  have LL := nuP_len hW hP
  have nr := nuO_r hx
  -- the beginning
  have CM : ∀ (ty : Int) (Z : List Int), sl g p (cmR M0 ids L x ty ++ Z).length = cmR M0 ids L x ty ++ Z → (0 ≤ ty ∧ ty ≤ 100) → le g p 2 = ty ∧ le g (p + 12) 4 = nuO L x ∧ sl g (p + 16) Z.length = Z := by
    intro ty Z hZ hty
    have e : cmR M0 ids L x ty ++ Z = leL ty 2 ++ (leL (M0 172 x) 2 ++ (leL (ids.idxOf (M0 173 x)) 2 ++ (leL (ids.idxOf (M0 174 x)) 2 ++ (leL (M0 175 x) 4 ++ (leL (nuO L x) 4 ++ Z))))) := by
      unfold cmR cmL
      simp only [List.append_assoc]
    rw [e] at hZ
    obtain ⟨h1, hZ⟩ := peel hZ
    obtain ⟨-, hZ⟩ := peel hZ
    obtain ⟨-, hZ⟩ := peel hZ
    obtain ⟨-, hZ⟩ := peel hZ
    obtain ⟨-, hZ⟩ := peel hZ
    obtain ⟨h6, hZ⟩ := peel hZ
    have v1 := le_l2 h1
    have v6 := le_leL h6
    rw [show p + ((2 : Nat) : Int) + ((2 : Nat) : Int) + ((2 : Nat) : Int) + ((2 : Nat) : Int) + ((4 : Nat) : Int) = p + 12 by omega] at v6 hZ
    rw [show p + 12 + ((4 : Nat) : Int) = p + 16 by omega] at hZ
    exact ⟨by rw [v1]; omega, by rw [v6]; omega, hZ⟩
  rcases h with ⟨k1, e⟩ | ⟨k1, n, X, sz, st, pl, lk, lX, hX, e⟩
  · -- no directory
    unfold nnB at e
    by_cases c2 : M0 171 x = 2
    · rw [if_pos c2] at e
      obtain ⟨q1, q2, q3, q4⟩ := hF x hx c2
      obtain ⟨f1, f2⟩ := hf x hx c2
      have d4 := b3 4 x
      have tb2 := tb.2.1 c2
      have bb := bc_bk (fr := dN D 4 x) hB hop (by omega) f1 (fun q => ⟨f2 q, d4.2⟩)
      have bk0 := (bkN_b (op := op) (B := B) (n := M0 180 x) hB (by omega)).1.1
      have lb : (idB (((dB D).drop (dN D 1 x).toNat).take (dN D 2 x).toNat)).length = 4 * (dN D 2 x).toNat := by
        rw [idB_len, List.length_take, List.length_drop]
        omega
      unfold flB at e
      by_cases cm : 1 < M0 177 x ∨ 0 < dN D 3 x
      · rw [if_pos cm] at e
        rw [e] at hg
        obtain ⟨t1, t2, hg⟩ := CM 9 _ hg (by omega)
        obtain ⟨-, hg⟩ := peel hg
        obtain ⟨h2, hg⟩ := peel hg
        obtain ⟨-, hg⟩ := peel hg
        obtain ⟨-, hg⟩ := peel hg
        obtain ⟨h5, hg⟩ := peel hg
        have v2 := le_l8 h2
        have v5 := le_leL h5
        rw [show p + 16 + ((8 : Nat) : Int) = p + 24 by omega] at v2
        rw [show p + 16 + ((8 : Nat) : Int) + ((8 : Nat) : Int) + ((8 : Nat) : Int) + ((4 : Nat) : Int) = p + 44 by omega] at v5
        have lY : Y.length = 56 + 4 * (dN D 2 x).toNat := by
          rw [e]
          unfold cmR
          simp only [List.length_append, leL_len, cmL_len, lb]
          omega
        refine ⟨t2, by rw [t1, c2]; rfl, fun h0 => ?_, fun q => absurd q k1, by omega⟩
        have h0b := iE_ok h0
        rw [h0b] at h0 ⊢
        have eb : bodE g N B F p = filE g N B F p := by
          unfold bodE
          rw [t1, if_neg (by decide), if_pos (by decide)]
        rw [eb] at h0 ⊢
        unfold filE at h0 ⊢
        by_cases c52 : le g p 2 ≤ 7 ∨ le g (p + 52) 4 = 4294967295
        · rw [if_pos c52] at h0 ⊢
          rw [flE_ok h0]
          unfold fSz fFr
          rw [t1, if_neg (by decide), if_neg (by decide), v2, v5]
          have es : s64 (M0 180 x % 18446744073709551616) = M0 180 x := by
            unfold s64
            omega
          rw [es, bb, lY, show fxT 9 = 56 from rfl]
          omega
        · rw [if_neg c52] at h0
          omega
      · rw [if_neg cm] at e
        rw [e] at hg
        obtain ⟨t1, t2, hg⟩ := CM 2 _ hg (by omega)
        obtain ⟨-, hg⟩ := peel hg
        obtain ⟨h2, hg⟩ := peel hg
        obtain ⟨-, hg⟩ := peel hg
        obtain ⟨h4, hg⟩ := peel hg
        have v2 := le_leL h2
        have v4 := le_leL h4
        rw [show p + 16 + ((4 : Nat) : Int) = p + 20 by omega] at v2
        rw [show p + 16 + ((4 : Nat) : Int) + ((4 : Nat) : Int) + ((4 : Nat) : Int) = p + 28 by omega] at v4
        have lY : Y.length = 32 + 4 * (dN D 2 x).toNat := by
          rw [e]
          unfold cmR
          simp only [List.length_append, leL_len, cmL_len, lb]
          omega
        refine ⟨t2, by rw [t1, c2]; rfl, fun h0 => ?_, fun q => absurd q k1, by omega⟩
        have h0b := iE_ok h0
        rw [h0b] at h0 ⊢
        have eb : bodE g N B F p = filE g N B F p := by
          unfold bodE
          rw [t1, if_neg (by decide), if_pos (by decide)]
        rw [eb] at h0 ⊢
        unfold filE at h0 ⊢
        have c7 : le g p 2 ≤ 7 ∨ le g (p + 52) 4 = 4294967295 := Or.inl (by omega)
        rw [if_pos c7] at h0 ⊢
        rw [flE_ok h0]
        unfold fSz fFr
        rw [t1, if_pos (by decide), if_pos (by decide), v2, v4, show M0 180 x % 4294967296 = M0 180 x by omega, bb, lY, show fxT 2 = 32 from rfl]
        omega
    · rw [if_neg c2] at e
      rw [e] at hg
      obtain ⟨t1, t2, hg⟩ := CM (M0 171 x) _ hg (by omega)
      obtain ⟨-, hg⟩ := peel hg
      rw [show p + 16 + ((4 : Nat) : Int) = p + 20 by omega] at hg
      have kd : kdT (M0 171 x) = M0 171 x := by
        unfold kdT
        rw [if_pos (by omega)]
      unfold otB at e hg
      by_cases c3 : M0 171 x = 3
      · rw [if_pos c3] at e hg
        obtain ⟨h2, hg⟩ := peel hg
        have v2 := le_leL h2
        have lT : ((tgL M0 x).length : Int) = M0 180 x := by
          unfold tgL
          rw [sl_len]
          omega
        have tb3 := tb.2.2 c3
        have lY : Y.length = 24 + (tgL M0 x).length := by
          rw [e]
          unfold cmR
          simp only [List.length_append, leL_len, cmL_len]
          omega
        refine ⟨t2, by rw [t1]; exact kd, fun h0 => ?_, fun q => absurd q k1, by omega⟩
        have h0b := iE_ok h0
        rw [h0b] at h0 ⊢
        have eb : bodE g N B F p = lnkE g N p := by
          unfold bodE
          rw [t1, c3, if_neg (by decide), if_neg (by decide), if_pos (by decide)]
        rw [eb] at h0 ⊢
        unfold lnkE at h0 ⊢
        rw [t1, v2] at h0 ⊢
        split at h0
        · rename_i w
          rw [if_pos w]
          rw [if_pos (by omega : M0 171 x ≤ 7)] at h0 ⊢
          split at h0
          · rename_i w2
            rw [if_pos w2, lY]
            omega
          · omega
        · omega
      · rw [if_neg c3] at e
        have lY : Y.length = if M0 171 x = 4 ∨ M0 171 x = 5 then 24 else 20 := by
          rw [e]
          unfold cmR
          split
          · simp only [List.length_append, leL_len, cmL_len]
          · simp only [List.length_append, leL_len, cmL_len, List.length_nil]
        have l0 : 0 < Y.length := by
          rw [lY]
          split <;> omega
        refine ⟨t2, by rw [t1]; exact kd, fun h0 => ?_, fun q => absurd q k1, l0⟩
        have h0b := iE_ok h0
        rw [h0b] at h0 ⊢
        have eb : bodE g N B F p = othE g p := by
          unfold bodE
          rw [t1, kd, if_neg k1, if_neg c2, if_neg c3]
        rw [eb] at h0 ⊢
        unfold othE at h0 ⊢
        rw [t1] at h0 ⊢
        rw [if_pos (Or.inl (by omega)), lY]
        have k47 : M0 171 x = 4 ∨ M0 171 x = 5 ∨ M0 171 x = 6 ∨ M0 171 x = 7 := by omega
        rcases k47 with k | k | k | k
        · rw [k, if_pos (Or.inl rfl)]
          rfl
        · rw [k, if_pos (Or.inr rfl)]
          rfl
        · rw [k, if_neg (by omega)]
          rfl
        · rw [k, if_neg (by omega)]
          rfl
  · -- a directory
    have pr : 0 ≤ paN M0 L x ∧ paN M0 L x ≤ 4294967295 := by
      unfold paN
      split
      · omega
      · unfold nuO
        have : L.idxOf (M0 178 x) ≤ L.length := List.idxOf_le_length
        omega
    unfold fdB at e
    by_cases cm : 0 < (X.length : Int) ∨ 65535 < sz
    · rw [if_pos cm] at e
      rw [e] at hg
      obtain ⟨t1, t2, hg⟩ := CM 8 _ hg (by omega)
      obtain ⟨-, hg⟩ := peel hg
      obtain ⟨-, hg⟩ := peel hg
      obtain ⟨-, hg⟩ := peel hg
      obtain ⟨h4, hg⟩ := peel hg
      obtain ⟨h5, hg⟩ := peel hg
      obtain ⟨-, hg⟩ := peel hg
      obtain ⟨-, hg⟩ := peel hg
      have v4 := le_leL h4
      have v5 := le_l2 h5
      rw [show p + 16 + ((4 : Nat) : Int) + ((4 : Nat) : Int) + ((4 : Nat) : Int) = p + 28 by omega] at v4
      rw [show p + 16 + ((4 : Nat) : Int) + ((4 : Nat) : Int) + ((4 : Nat) : Int) + ((4 : Nat) : Int) = p + 32 by omega] at v5
      rw [show p + 16 + ((4 : Nat) : Int) + ((4 : Nat) : Int) + ((4 : Nat) : Int) + ((4 : Nat) : Int) + ((2 : Nat) : Int) + ((2 : Nat) : Int) + ((4 : Nat) : Int) = p + 40 by omega] at hg
      have lY : Y.length = 40 + (ixL n X).length := by
        rw [e]
        unfold cmR
        simp only [List.length_append, leL_len, cmL_len]
        omega
      refine ⟨t2, by rw [t1, k1]; rfl, fun h0 => ?_, fun _ => by rw [v4]; omega, by omega⟩
      have h0b := iE_ok h0
      rw [h0b] at h0 ⊢
      have eb : bodE g N B F p = dirE g N p := by
        unfold bodE
        rw [t1, if_pos (by decide)]
      rw [eb] at h0 ⊢
      unfold dirE at h0 ⊢
      rw [t1, if_neg (by decide)] at h0 ⊢
      have ex : (le g (p + 32) 2).toNat = X.length := by
        rw [v5]
        omega
      rw [ex] at h0 ⊢
      split at h0
      · rename_i w
        rw [if_pos w, iw_ix X (p + 40) (fun q hq => (hX q hq).1) hg h0, lY]
        omega
      · omega
    · rw [if_neg cm] at e
      rw [e] at hg
      obtain ⟨t1, t2, hg⟩ := CM 1 _ hg (by omega)
      obtain ⟨-, hg⟩ := peel hg
      obtain ⟨-, hg⟩ := peel hg
      obtain ⟨-, hg⟩ := peel hg
      obtain ⟨-, hg⟩ := peel hg
      have v5 : le g (p + 28) 4 = paN M0 L x % 4294967296 := by
        have hg2 : sl g (p + 16 + ((4 : Nat) : Int) + ((4 : Nat) : Int) + ((2 : Nat) : Int) + ((2 : Nat) : Int)) 4 = leL (paN M0 L x) 4 := by
          rw [leL_len] at hg
          exact hg
        have := le_leL hg2
        rw [show p + 16 + ((4 : Nat) : Int) + ((4 : Nat) : Int) + ((2 : Nat) : Int) + ((2 : Nat) : Int) = p + 28 by omega] at this
        exact this
      have lY : Y.length = 32 := by
        rw [e]
        unfold cmR
        simp only [List.length_append, leL_len, cmL_len]
      refine ⟨t2, by rw [t1, k1]; rfl, fun h0 => ?_, fun _ => by rw [v5]; omega, by omega⟩
      have h0b := iE_ok h0
      rw [h0b] at h0 ⊢
      have eb : bodE g N B F p = dirE g N p := by
        unfold bodE
        rw [t1, if_pos (by decide)]
      rw [eb] at h0 ⊢
      unfold dirE at h0 ⊢
      rw [t1, if_pos (by decide)] at h0 ⊢
      split at h0
      · rename_i w
        rw [if_pos w, lY]
        rfl
      · omega
end BLOCKS
