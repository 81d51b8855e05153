/-! FREEZING: a row of pieces is read back -/
theorem hbL_bs (v : Int) : ∀ n : Nat, bsP (hbL v n)
  | 0 => fun x hx => absurd hx List.not_mem_nil
  | n + 1 => by
    intro x hx
    rcases List.mem_cons.1 hx with e | e
    · rw [e]
      omega
    · exact hbL_bs v n x e
theorem cbL_bs (ls : Int → Int) (n : Nat) (s : Int) : bsP (cbL ls n s) := hbL_bs _ _
theorem tkL_bs (la : Int → Int) (na : Nat) (lb : Int → Int) (nb : Nat) (t : Int × Int) : bsP (tkL la na lb nb t) := by
  unfold tkL
  split
  · exact cbL_bs _ _ _
  · exact bsP_app (cbL_bs _ _ _) (bsP_app (nbL_bs _ _) (bsP_app (cbL_bs _ _ _) (nbL_bs _ _)))
theorem tksL_bs (la : Int → Int) (na : Nat) (lb : Int → Int) (nb : Nat) : ∀ l : List (Int × Int), bsP (tksL la na lb nb l)
  | [] => cbL_bs _ _ _
  | t :: r => bsP_app (tkL_bs la na lb nb t) (tksL_bs la na lb nb r)
theorem slL_bs (lt : Int → Int) : ∀ n : Nat, bsP (slL lt n)
  | 0 => fun x hx => absurd hx List.not_mem_nil
  | n + 1 => bsP_app (slL_bs lt n) (nbL_bs _ _)
theorem tesL_bs (lt : Int → Int) : ∀ l : List (Int × Int), bsP (tesL lt l)
  | [] => fun x hx => absurd hx List.not_mem_nil
  | p :: r => bsP_app (cbL_bs _ _ _) (bsP_app (nbL_bs _ _) (tesL_bs lt r))
theorem hdL_bs (lt : Int → Int) (S : List (Int × Int)) (h dd : Int) : bsP (hdL lt S h dd) := bsP_app (nbL_bs _ _) (bsP_app (nbL_bs _ _) (bsP_app (nbL_bs _ _) (bsP_app (nbL_bs _ _) (bsP_app (slL_bs _ _) (tesL_bs _ _)))))
theorem padB_bs {B : List Int} (h : bsP B) : bsP (padB B) := bsP_app h (fun x hx => Or.inl (List.eq_of_mem_replicate hx))
theorem one_bs {x : Int} (h : x = 0 ∨ x = 1) : bsP [x] := fun y hy => by
  rw [List.mem_singleton.1 hy]
  exact h
theorem ptS_bs {B : List Int} (h : bsP B) (f : Int → Int) (a b e : Int) {last : Int} (hl : last = 0 ∨ last = 1) : bsP (ptS B f a b e last) := by
  unfold ptS
  split
  · exact bsP_app (bsP_app (bsP_app (padB_bs (bsP_app (bsP_app h (one_bs hl)) (nbL_bs _ _))) (nbL_bs _ _)) (nbL_bs _ _)) (sbL_bs _ _ _)
  · split
    · exact bsP_app (bsP_app (bsP_app h (one_bs hl)) (nbL_bs _ _)) (tksL_bs _ _ _ _ _)
    · exact bsP_app (bsP_app (bsP_app h (one_bs hl)) (hdL_bs _ _ _ _)) (tksL_bs _ _ _ _ _)
theorem pgG_bs (f : Int → Int) (a n : Int) : ∀ (g : Nat) (B : List Int) (b : Int), bsP B → bsP (pgG f a n g B b)
  | 0, B, b, h => h
  | g + 1, B, b, h => by
    show bsP (if b + 4096 < n then pgG f a n g (ptS B f a b (b + 4096) 0) (b + 4096) else ptS B f a b n 1)
    split
    · exact pgG_bs f a n g _ _ (ptS_bs h f a _ _ (Or.inl rfl))
    · exact ptS_bs h f a _ _ (Or.inr rfl)
theorem pkS_bs (f : Int → Int) (a n : Int) : bsP (pkS f a n) := bsP_app (padB_bs (pgG_bs f a n 17 _ 0 (bsP_app (nbL_bs _ _) (nbL_bs _ _)))) (bsP_app (bsP_app (bsP_app (nbL_bs _ _) (nbL_bs _ _)) (nbL_bs _ _)) (nbL_bs _ _))
theorem pkS_8 (f : Int → Int) (a n : Int) : (pkS f a n).length % 8 = 0 := by
  unfold pkS ckL
  have := (padB_len (pkB f a n)).1
  simp only [List.length_append, nbL_len]
  omega
def byR (R : List Int) : Prop := ∀ y ∈ R, 0 ≤ y ∧ y < 256
theorem sl_self {R : List Int} (h : byR R) : sl (lf R) 0 R.length = R := by
  refine sl_of (fun i x hx => ?_)
  unfold lf
  rw [Int.toNat_natCast, hx]
  have := h x (List.mem_of_getElem? hx)
  show x % 256 = x
  omega
/-- a piece is read back -/
theorem pc_read {f : Int → Int} {z p : Int} {X o : List Int} (hX : byR X) (h1 : 1 ≤ X.length) (h2 : X.length ≤ 8192) (h : sl f p (pcY z X).length = pcY z X) (hr : pbS f p = some o) : o = X ∧ 2 + le f p 2 % 32768 = (pcY z X).length := by
  unfold pcY at h ⊢
  by_cases c : z ≠ 0 ∧ (pkL X).length < X.length
  · rw [if_pos c] at h ⊢
    rw [List.length_append, leL_len, sl_add] at h
    obtain ⟨a1, a2⟩ := List.append_inj h (by rw [sl_len, leL_len])
    have e1 := le_l2 a1
    have c2 := c.2
    have e2 : le f p 2 = (pkL X).length := by rw [e1]; omega
    unfold pbS at hr
    rw [if_neg (by omega)] at hr
    have B : bAt f (8 * (p + 2)) (pkS (lf X) 0 X.length) := by
      refine by_dec (m := (pkL X).length) (pkS_bs _ _ _) ?_ (fun i hi => ?_)
      · have := pkS_8 (lf X) 0 X.length
        rw [pkL_len]
        omega
      · obtain ⟨y, hy⟩ : ∃ y, (pkL X)[i]? = some y := ⟨_, List.getElem?_eq_getElem hi⟩
        have g := sl_get (f := f) (pkL X).length (p + ((2 : Nat) : Int)) i hi
        rw [a2, hy] at g
        rw [← (pkL_at hy).2]
        exact (Option.some.inj g).symm
    rw [List.length_append, leL_len]
    refine ⟨?_, by omega⟩
    cases hu : unS f (p + 2) (le f p 2 % 32768) 8192 with
    | none =>
      rw [hu] at hr
      cases hr
    | some o2 =>
      rw [hu] at hr
      have hr2 : (if o2.length = 0 then none else some o2) = some o := hr
      have d := dec_un (n := X.length) ⟨h1, by omega⟩ B hu
      split at hr2
      · cases hr2
      · rw [← Option.some.inj hr2, d]
        exact sl_self hX
  · rw [if_neg c] at h ⊢
    rw [List.length_append, leL_len, sl_add] at h
    obtain ⟨a1, a2⟩ := List.append_inj h (by rw [sl_len, leL_len])
    have e1 := le_l2 a1
    have e2 : le f p 2 = (X.length : Int) + 32768 := by rw [e1]; omega
    unfold pbS at hr
    rw [if_pos (by omega)] at hr
    rw [List.length_append, leL_len]
    refine ⟨?_, by omega⟩
    rw [← Option.some.inj hr, e2, show (((X.length : Int) + 32768) % 32768).toNat = X.length by omega]
    exact a2
theorem pcL_by {R : List Int} (h : byR R) (k : Nat) : byR (pcL R k) := fun y hy => h y (List.mem_of_mem_drop (List.mem_of_mem_take hy))
theorem rd_clG {f : Int → Int} {a z : Int} {R R' S' : List Int} (hR : byR R) (lR : R.length ≤ 65536) (h : sl f a (clG z R 0 (pcN R.length)).length = clG z R 0 (pcN R.length)) (hr : rdS f a (a + ((clG z R 0 (pcN R.length)).length : Nat)) 8 = some (R', S')) : R' = R := by
  obtain ⟨W, hW⟩ : ∃ W, W = clG z R 0 (pcN R.length) := ⟨_, rfl⟩
  rw [← hW] at h hr
  have MAIN : ∀ (G k : Nat) (S : List Int), k ≤ pcN R.length → rdG f a (a + (W.length : Nat)) 8 G (a + ((clG z R 0 k).length : Nat)) (R.take (8192 * k)) S = some (R', S') → R' = R := by
    intro G
    induction G with
    | zero =>
      intro k S hk hg
      cases hg
    | succ G ih =>
      intro k S hk hg
      unfold rdG at hg
      by_cases ek : k = pcN R.length
      · rw [ek, ← hW, if_pos (Int.le_refl _)] at hg
        have e := Option.some.inj hg
        have e1 : R.take (8192 * pcN R.length) = R' := congrArg Prod.fst e
        rw [← e1]
        refine List.take_of_length_le ?_
        unfold pcN
        omega
      · have l1 : W.length = (clG z R 0 k).length + (clG z R k (pcN R.length - k)).length := by
          have := clG_add z R 0 k (pcN R.length - k)
          rw [show k + (pcN R.length - k) = pcN R.length by omega, Nat.zero_add] at this
          rw [hW, this, List.length_append]
        have l2 : clG z R k (pcN R.length - k) = pcY z (pcL R k) ++ clG z R (k + 1) (pcN R.length - k - 1) := by
          have := clG_add z R k 1 (pcN R.length - k - 1)
          rw [show 1 + (pcN R.length - k - 1) = pcN R.length - k by omega] at this
          rw [this]
          show clG z R k 0 ++ pcY z (pcL R (k + 0)) ++ _ = _
          rfl
        have l3 : (clG z R k (pcN R.length - k)).length = (pcY z (pcL R k)).length + (clG z R (k + 1) (pcN R.length - k - 1)).length := by rw [l2, List.length_append]
        have pl := pcY_len z (pcL R k)
        have kb : 8192 * k < R.length := by
          have : k < (R.length + 8191) / 8192 := by
            unfold pcN at hk ek
            omega
          omega
        have ll := pcL_len (R := R) (k := k) (by omega)
        have pz : 0 ≤ pkZ z (pcL R k) := by
          unfold pkZ
          split <;> omega
        rw [if_neg (by omega)] at hg
        -- where the piece is
        have hp : sl f (a + ((clG z R 0 k).length : Nat)) (pcY z (pcL R k)).length = pcY z (pcL R k) := by
          have eW : W = clG z R 0 k ++ (pcY z (pcL R k) ++ clG z R (k + 1) (pcN R.length - k - 1)) := by
            have := clG_add z R 0 k (pcN R.length - k)
            rw [show k + (pcN R.length - k) = pcN R.length by omega, Nat.zero_add] at this
            rw [hW, this, l2]
          have h2 := h
          rw [eW, List.length_append, List.length_append, sl_add, sl_add] at h2
          have h3 := (List.append_inj h2 (by rw [sl_len])).2
          exact (List.append_inj h3 (by rw [sl_len])).1
        by_cases c2 : (R.take (8192 * k)).length ≠ 8192 * S.length ∨ 8 ≤ S.length
        · rw [if_pos c2] at hg
          cases hg
        · rw [if_neg c2] at hg
          cases hpb : pbS f (a + ((clG z R 0 k).length : Nat)) with
          | none =>
            rw [hpb] at hg
            cases hg
          | some o =>
            rw [hpb] at hg
            obtain ⟨eo, ele⟩ := pc_read (pcL_by hR k) (by omega) (pcL_le R k) hp hpb
            have hg2 : rdG f a (a + (W.length : Nat)) 8 G (a + ((clG z R 0 k).length : Nat) + 2 + le f (a + ((clG z R 0 k).length : Nat)) 2 % 32768) (R.take (8192 * k) ++ o) (S ++ [a + ((clG z R 0 k).length : Nat) - a]) = some (R', S') := hg
            have e1 : a + ((clG z R 0 k).length : Nat) + 2 + le f (a + ((clG z R 0 k).length : Nat)) 2 % 32768 = a + ((clG z R 0 (k + 1)).length : Nat) := by
              have : (clG z R 0 (k + 1)).length = (clG z R 0 k).length + (pcY z (pcL R k)).length := by
                show (clG z R 0 k ++ pcY z (pcL R (0 + k))).length = _
                rw [List.length_append, Nat.zero_add]
              omega
            have e2 : R.take (8192 * k) ++ o = R.take (8192 * (k + 1)) := by
              rw [eo]
              unfold pcL
              rw [show 8192 * (k + 1) = 8192 * k + 8192 by omega, List.take_add]
            rw [e1, e2] at hg2
            exact ih (k + 1) _ (by omega) hg2
  unfold rdS at hr
  have F := MAIN _ 0 [] (Nat.zero_le _) (by
    show rdG f a (a + (W.length : Nat)) 8 _ (a + (([] : List Int).length : Nat)) (R.take 0) [] = some (R', S')
    rw [List.take_zero, show a + (([] : List Int).length : Nat) = a by show a + ((0 : Nat) : Int) = a; omega]
    exact hr)
  exact F
