/-! THE TREE WITH A FILE GROWN: the reference's cells, the class's cells -/
def mgX (M M2 : FM) (i n : Int) (T : List Int) : Prop :=
  (∀ c : Nat, (171 ≤ c ∧ c ≤ 178 ∨ 182 ≤ c ∧ c ≤ 187) → M2 c = M c) ∧ (M2 168 5 = M 168 5 ∧ M2 168 17 = M 168 17 + n ∧ M2 168 19 = M 168 19 ∧ M2 168 20 = M 168 20 ∧ M2 168 26 = M 168 26)
  ∧ (∀ k : Int, 0 ≤ k → k < M 168 5 → k ≠ i → M2 180 k = M 180 k ∧ (M 171 k = 2 → sl (M2 181) (M2 179 k) (M2 180 k).toNat = sl (M 181) (M 179 k) (M 180 k).toNat) ∧ (M 171 k = 3 → M2 179 k = M 179 k))
  ∧ (M2 180 i = M 180 i + n ∧ sl (M2 181) (M2 179 i) (M2 180 i).toNat = sl (M 181) (M 179 i) (M 180 i).toNat ++ T)
  ∧ twB M2 ∧ twD M2
def cgX (M M2 : FM) (i : Int) (a : Nat) (n : Int) (T : List Int) : Prop :=
  ((∀ c : Nat, (c = 8 ∨ 11 ≤ c ∧ c ≤ 14) → M2 c = M c) ∧ M2 9 1 = M 9 1 + n ∧ M2 a = ur (M a) 12 (M a 12 + n))
  ∧ ((∀ j : Int, j < M a 11 + M a 12 → M2 10 j = M 10 j) ∧ (∀ j : Int, M a 11 + M a 12 ≤ j → j < M 9 1 → M2 10 (j + n) = M 10 j) ∧ sl (M2 10) (M a 11 + M a 12) n.toNat = T)
  ∧ (∀ c : Nat, 265 ≤ c → (∀ k : Int, 0 ≤ k → k < M 168 5 → M 11 k ≠ c) → M2 c = M c)
  ∧ (∀ (k : Int) (b : Nat), 0 ≤ k → k < M 168 5 → k ≠ i → M 11 k = b → (M b 1 = 2 ∧ M a 11 + M a 12 ≤ M b 11 → M2 b = ur (M b) 11 (M b 11 + n)) ∧ (¬ (M b 1 = 2 ∧ M a 11 + M a 12 ≤ M b 11) → M2 b = M b))
section MGX
variable {sh : Nat → Option Shp} {M M3 : FM} {i n : Int} {g : Int → Int} {a : Nat}
theorem mg_at (hW : twR M) (hi : 0 ≤ i ∧ i < M 168 5) (hk : M 171 i = 2) (h : mwF M M3 i n g) (k : Int) (k0 : 0 ≤ k) (k1 : k < M 168 5) (ki : k ≠ i) (h2 : M 171 k = 2) : M3 180 k = M 180 k ∧ (M 179 k + M 180 k ≤ exA M i ∧ M3 179 k = M 179 k ∨ exA M i + M 180 i ≤ M 179 k ∧ M3 179 k = M 179 k + n) ∧ sl (M3 181) (M3 179 k) (M3 180 k).toNat = sl (M 181) (M 179 k) (M 180 k).toNat := by
  have xr := exA_rng hW hi.1 hi.2 hk
  have bk := hW.2.1.2 k k0 k1
  have bk2 := bk.2.1 h2
  have hd := hW.2.2.1 k i k0 k1 hi.1 hi.2 ki (by omega) (Or.inl h2)
  obtain ⟨M2, ⟨m1, m2, m3, ⟨m4, m5⟩, m6⟩, o1, o2, o3⟩ := h
  have e180 : M3 180 k = M 180 k := by rw [o1 180 (by decide), m2, ur_ne ki]
  have e179 : M3 179 k = exP M i n k := by rw [o1 179 (by decide), m3 k k0 k1]
  refine ⟨e180, ?_⟩
  rw [e180]
  by_cases e : exA M i + M 180 i ≤ M 179 k
  · have e1 : M3 179 k = M 179 k + n := by
      rw [e179]
      unfold exP
      rw [if_pos ⟨h2, ki, e⟩]
    refine ⟨Or.inr ⟨e, e1⟩, ?_⟩
    rw [e1]
    refine sl_congr _ _ _ (fun j hj => ?_)
    rw [show M 179 k + n + (j : Int) = M 179 k + j + n by omega, o2 _ (by omega)]
    exact m5 _ (by omega) (by omega)
  · have e1 : M3 179 k = M 179 k := by
      rw [e179]
      unfold exP
      rw [if_neg (by omega), if_neg ki]
    have e2 : M 179 k + M 180 k ≤ exA M i := by
      unfold exA at e ⊢
      split
      · omega
      · rename_i q
        rw [if_neg q] at e
        omega
    refine ⟨Or.inl ⟨e2, e1⟩, ?_⟩
    rw [e1]
    refine sl_congr _ _ _ (fun j hj => ?_)
    rw [o2 _ (by omega), m4 _ (by omega)]
theorem mgX_F (hW : twR M) (hi : 0 ≤ i ∧ i < M 168 5) (hk : M 171 i = 2) (hn : 0 ≤ n) (h17 : M 168 17 + n ≤ 65536) (h : mwF M M3 i n g) : mgX M M3 i n (sl g 0 n.toNat) := by
  have AT := mg_at hW hi hk h
  have xr := exA_rng hW hi.1 hi.2 hk
  have bb := hW.2.1.1
  obtain ⟨M2, ⟨m1, m2, m3, ⟨m4, m5⟩, m6⟩, o1, o2, o3⟩ := h
  have e168 : M3 168 = ur (M 168) 17 (M 168 17 + n) := by rw [o1 168 (by decide), m1]
  have e5 : M3 168 5 = M 168 5 := by rw [e168, ur_ne (by omega)]
  have e17 : M3 168 17 = M 168 17 + n := by rw [e168, ur_at]
  have e19 : M3 168 19 = M 168 19 := by rw [e168, ur_ne (by omega)]
  have OT : ∀ k : Int, 0 ≤ k → k < M 168 5 → M 171 k ≠ 2 → M3 180 k = M 180 k ∧ M3 179 k = M 179 k := by
    intro k k0 k1 h2
    have ki : k ≠ i := fun e => h2 (by rw [e]; exact hk)
    refine ⟨by rw [o1 180 (by decide), m2, ur_ne ki], ?_⟩
    rw [o1 179 (by decide), m3 k k0 k1]
    unfold exP
    rw [if_neg (fun z => h2 z.1), if_neg ki]
  have i179 : M3 179 i = exA M i := by
    rw [o1 179 (by decide), m3 i hi.1 hi.2]
    unfold exP
    rw [if_neg (fun z => z.2.1 rfl), if_pos rfl]
  have i180 : M3 180 i = M 180 i + n := by rw [o1 180 (by decide), m2, ur_at]
  have e171 : M3 171 = M 171 := by rw [o1 171 (by decide), m6 171 (by decide) (by decide) (by decide) (by decide)]
  refine ⟨fun c hc => ?_, ⟨e5, e17, e19, by rw [e168, ur_ne (by omega)], by rw [e168, ur_ne (by omega)]⟩, fun k k0 k1 ki => ?_, ⟨i180, ?_⟩, ⟨by omega, fun k k0 k1 => ?_⟩, fun k j k0 k1 j0 j1 kj hkj h2 => ?_⟩
  · rw [o1 c (by omega), m6 c (by omega) (by omega) (by omega) (by omega)]
  · by_cases e : M 171 k = 2
    · obtain ⟨a1, -, a3⟩ := AT k k0 k1 ki e
      exact ⟨a1, fun _ => a3, fun z => by omega⟩
    · obtain ⟨a1, a2⟩ := OT k k0 k1 e
      exact ⟨a1, fun z => absurd z e, fun _ => a2⟩
  · rw [i179, i180, show (M 180 i + n).toNat = (M 180 i).toNat + n.toNat by omega, sl_add]
    congr 1
    · unfold exA
      by_cases e : M 180 i = 0
      · rw [if_pos e, e]
        rfl
      · rw [if_neg e]
        have e2 : exA M i = M 179 i := if_neg e
        refine sl_congr _ _ _ (fun j hj => ?_)
        rw [o2 _ (by omega), m4 _ (by omega)]
    · refine sl_congr _ _ _ (fun j hj => ?_)
      rw [show exA M i + ((M 180 i).toNat : Int) + (j : Int) = exA M i + M 180 i + j by omega, o3 j (by omega) (by omega)]
      congr 2
      omega
  · rw [e5] at k1
    rw [e171]
    have bk := hW.2.1.2 k k0 k1
    by_cases e : M 171 k = 2
    · have bk2 := bk.2.1 e
      by_cases ki : k = i
      · rw [ki, i179, i180]
        exact ⟨by omega, fun _ => by omega, fun z => by omega⟩
      · obtain ⟨a1, a2, -⟩ := AT k k0 k1 ki e
        rw [a1]
        exact ⟨by omega, fun _ => by omega, fun z => by omega⟩
    · obtain ⟨a1, a2⟩ := OT k k0 k1 e
      rw [a1, a2, e19]
      exact ⟨bk.1, fun z => absurd z e, bk.2.2⟩
  · rw [e5] at k1 j1
    rw [e171] at hkj h2
    have bk := (hW.2.1.2 k k0 k1).1
    have bj := (hW.2.1.2 j j0 j1).1
    have hd := hW.2.2.1 k j k0 k1 j0 j1 kj hkj h2
    by_cases e : M 171 k = 2
    · by_cases ki : k = i
      · obtain ⟨a1, a2, -⟩ := AT j j0 j1 (by omega) (by omega)
        rw [ki, i179, i180, a1]
        omega
      · obtain ⟨a1, a2, -⟩ := AT k k0 k1 ki e
        by_cases ji : j = i
        · rw [ji, i179, i180, a1]
          omega
        · obtain ⟨c1, c2, -⟩ := AT j j0 j1 ji (by omega)
          rw [a1, c1]
          omega
    · obtain ⟨a1, a2⟩ := OT k k0 k1 e
      obtain ⟨c1, c2⟩ := OT j j0 j1 (by omega)
      rw [a1, a2, c1, c2]
      exact hd
theorem mgX_from {M0 : FM} {T : List Int} (h : mgX M M3 i n T) (e : ∀ c : Nat, 171 ≤ c → c ≤ 187 → M0 c = M c) (e2 : ∀ j : Int, 5 ≤ j → M0 168 j = M 168 j) : mgX M0 M3 i n T := by
  obtain ⟨h1, h2, h3, h4, h5⟩ := h
  have k171 := e 171 (by omega) (by omega)
  have k179 := e 179 (by omega) (by omega)
  have k180 := e 180 (by omega) (by omega)
  have k181 := e 181 (by omega) (by omega)
  refine ⟨fun c hc => (h1 c hc).trans (e c (by omega) (by omega)).symm, ?_, ?_, ?_, h5⟩
  · rw [e2 5 (by omega), e2 17 (by omega), e2 19 (by omega), e2 20 (by omega), e2 26 (by omega)]
    exact h2
  · rw [e2 5 (by omega), k171, k179, k180, k181]
    exact h3
  · rw [k179, k180, k181]
    exact h4
theorem cgX_F (hT : treeR sh M) (ha : a = 17 ∨ 265 ≤ a) (hia : M 11 i = a) (hi : 0 ≤ i ∧ i < M 168 5) (ha0 : M a 0 = i) (h11 : M a 11 + M a 12 ≤ M 9 1) (hn : 0 ≤ n) (h : gwF M M3 a n g) : cgX M M3 i a n (sl g 0 n.toNat) := by
  obtain ⟨M2, hP, o1, o2, o3⟩ := h
  have ta1 := hT.2.1.1
  have hnd := tree_nodeP hT
  obtain ⟨low, ea⟩ := gw_low ha hnd hP
  have L10 : M2 10 = cpf (M 10) (M 10) (M a 11 + M a 12) (M a 11 + M a 12 + n) (M 9 1 - (M a 11 + M a 12)) := by rw [low 10 (by omega) (by omega), gwM_10 M a n (by omega)]
  refine ⟨⟨fun c hc => ?_, ?_, ?_⟩, ⟨fun j hj => ?_, fun j j0 j1 => ?_, ?_⟩, fun c hc hi9 => ?_, fun k b k0 k1 ki hb => ?_⟩
  · rw [o1 c (by omega), low c (by omega) (by omega), gwM_o M a n (by omega) (by omega) (by omega)]
  · rw [o1 9 (by omega), low 9 (by omega) (by omega), gwM_9 M a n (by omega), ur_at]
  · rw [o1 a (by omega), ea, gwM_a M a n (by omega) (by omega)]
  · rw [o2 j (Or.inl hj), L10]
    unfold cpf
    rw [if_neg (by omega)]
  · rw [o2 (j + n) (by omega), L10]
    unfold cpf
    rw [if_pos (by omega)]
    congr 1
    omega
  · refine sl_congr _ _ _ (fun j hj => ?_)
    rw [o3 j (by omega) (by omega)]
    congr 2
    omega
  · have hca : c ≠ a := fun e => hi9 i hi.1 hi.2 (by rw [e]; exact hia)
    rw [o1 c (by omega), hP.1 c (fun k k0 k1 e => ?_), gwM_o M a n (by omega) (by omega) hca]
    rw [gwM_o M a n (by omega) (by omega) (by omega)] at e
    exact hi9 k k0 (by omega) e
  · have hnp := hnd k k0 (by omega)
    rcases hnp with hnp | ⟨b2, hh, tt, e3, e4, e5, e6, e7, e8⟩
    · omega
    · have eb : b2 = b := by omega
      rw [eb] at e5 e8
      have nb : b ≠ a := by
        intro z
        rw [z] at e8
        omega
      have f11 : gwM M a n 11 = M 11 := gwM_o M a n (by omega) (by omega) (by omega)
      have hs := hP.2 k b k0 (by omega) (by rw [f11]; exact hb)
      have fb : gwM M a n b = M b := gwM_o M a n (by omega) (by omega) nb
      rw [fb] at hs
      unfold selS at hs
      rw [fb] at hs
      rw [o1 b (by omega)]
      exact ⟨fun z => hs.1 ⟨nb, z⟩, fun z => hs.2 (fun y => z y.2)⟩
end MGX
