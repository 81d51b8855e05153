/-! FREEZING: entries of a directory, numbers: what both compute; what the class's freezer leaves of the tree -/
/-- how many are below F -/
def feG (f : Int → Int) (F : Int) : Nat → Int
  | 0 => 0
  | n + 1 => feG f F n + (if f n < F then 1 else 0)
/-- the first entry of a directory -/
def fe (M : FM) (F : Int) : Int := feG (M 183) F (M 168 20).toNat
/-- how many entries it has -/
def ec (M : FM) (F : Int) : Nat := (cnt (M 183) (M 168 20).toNat F).toNat
theorem feG_r (f : Int → Int) (F : Int) : ∀ n : Nat, 0 ≤ feG f F n ∧ feG f F n ≤ n
  | 0 => by
    show (0 : Int) ≤ 0 ∧ (0 : Int) ≤ ((0 : Nat) : Int)
    omega
  | n + 1 => by
    have ih := feG_r f F n
    show 0 ≤ feG f F n + (if f n < F then 1 else 0) ∧ feG f F n + (if f n < F then 1 else 0) ≤ ((n + 1 : Nat) : Int)
    split <;> omega
theorem feG_s {f : Int → Int} {F : Int} : ∀ n : Nat, (∀ k m : Nat, k < m → m < n → f k ≤ f m) → (∀ k : Nat, (k : Int) < feG f F n → f k < F) ∧ ∀ k : Nat, feG f F n ≤ k → k < n → F ≤ f k
  | 0, _ => ⟨fun k hk => by
      have : (k : Int) < 0 := hk
      omega, fun k _ hk => by omega⟩
  | n + 1, h => by
    have ih := feG_s (f := f) (F := F) n (fun k m a b => h k m a (by omega))
    have r := feG_r f F n
    have e : feG f F (n + 1) = feG f F n + (if f n < F then 1 else 0) := rfl
    rw [e]
    by_cases c : f n < F
    · rw [if_pos c]
      have full : feG f F n = n := by
        by_cases q : feG f F n = n
        · exact q
        · have z1 := ih.2 (feG f F n).toNat (by omega) (by omega)
          have z2 := h (feG f F n).toNat n (by omega) (by omega)
          omega
      refine ⟨fun k hk => ?_, fun k h1 h2 => by omega⟩
      by_cases q : k = n
      · rw [q]
        exact c
      · exact ih.1 k (by omega)
    · rw [if_neg c]
      refine ⟨fun k hk => ih.1 k (by omega), fun k h1 h2 => ?_⟩
      by_cases q : k = n
      · rw [q]
        omega
      · exact ih.2 k (by omega) (by omega)
theorem feG_next (f : Int → Int) (F : Int) : ∀ n : Nat, feG f (F + 1) n = feG f F n + cnt f n F
  | 0 => rfl
  | n + 1 => by
    have ih := feG_next f F n
    show feG f (F + 1) n + (if f n < F + 1 then 1 else 0) = feG f F n + (if f n < F then 1 else 0) + (cnt f n F + (if f n = F then 1 else 0))
    rw [ih]
    split <;> split <;> split <;> omega
section FE
variable {M : FM}
theorem tw_mono (hW : twR M) : ∀ k m : Nat, k < m → m < (M 168 20).toNat → M 183 k ≤ M 183 m := by
  intro k m h1 h2
  have := hW.2.2.2.2.1 k m (by omega) (by omega) (by omega)
  rcases this with z | z <;> omega
theorem fe_r (hW : twR M) (F : Int) : 0 ≤ fe M F ∧ fe M F + ec M F ≤ M 168 20 := by
  have h := hW.2.2.2.1.1
  have a := feG_r (M 183) F (M 168 20).toNat
  have b := feG_r (M 183) (F + 1) (M 168 20).toNat
  rw [feG_next] at b
  have c := (cnt_nn (M 183) F (M 168 20).toNat).1
  unfold fe ec
  omega
theorem fe_in (hW : twR M) {F k : Int} (h0 : fe M F ≤ k) (h1 : k < fe M F + ec M F) : M 183 k = F := by
  have h := hW.2.2.2.1.1
  have r := fe_r hW F
  have a := feG_s (F := F) (M 168 20).toNat (tw_mono hW)
  have b := feG_s (F := F + 1) (M 168 20).toNat (tw_mono hW)
  have c := (cnt_nn (M 183) F (M 168 20).toNat).1
  have e := feG_next (M 183) F (M 168 20).toNat
  obtain ⟨n, rfl⟩ : ∃ n : Nat, k = n := ⟨k.toNat, by omega⟩
  have x := a.2 n h0 (by omega)
  have y := b.1 n (by
    rw [e]
    unfold fe ec at h1
    omega)
  omega
theorem fe_out (hW : twR M) {F k : Int} (h0 : 0 ≤ k) (h1 : k < M 168 20) (h2 : M 183 k = F) : fe M F ≤ k ∧ k < fe M F + ec M F := by
  have a := feG_s (F := F) (M 168 20).toNat (tw_mono hW)
  have b := feG_s (F := F + 1) (M 168 20).toNat (tw_mono hW)
  have c := (cnt_nn (M 183) F (M 168 20).toNat).1
  have e := feG_next (M 183) F (M 168 20).toNat
  obtain ⟨n, rfl⟩ : ∃ n : Nat, k = n := ⟨k.toNat, by omega⟩
  unfold fe ec
  constructor
  · by_cases q : feG (M 183) F (M 168 20).toNat ≤ n
    · exact q
    · have := a.1 n (by omega)
      omega
  · by_cases q : feG (M 183) (F + 1) (M 168 20).toNat ≤ n
    · have := b.2 n q (by omega)
      omega
    · omega
theorem fe_lb (hW : twR M) (F : Int) : isLB M (fe M F) F [] := by
  have h := hW.2.2.2.1.1
  have r := feG_r (M 183) F (M 168 20).toNat
  have a := feG_s (F := F) (M 168 20).toNat (tw_mono hW)
  have g : fe M F = feG (M 183) F (M 168 20).toNat := rfl
  refine ⟨by omega, fun k k0 k1 => ?_, fun k k0 k1 hl => ?_⟩
  · obtain ⟨n, rfl⟩ : ∃ n : Nat, k = n := ⟨k.toNat, by omega⟩
    exact Or.inl (a.1 n k1)
  · obtain ⟨n, rfl⟩ : ∃ n : Nat, k = n := ⟨k.toNat, by omega⟩
    have := a.2 n k0 (by omega)
    rcases hl with z | ⟨z1, z2⟩
    · omega
    · rw [ordL_nil] at z2
      omega
end FE
/-- no more than there are -/
theorem pig : ∀ (N : Nat) (L : List Int), L.Nodup → (∀ x ∈ L, 0 ≤ x ∧ x < N) → L.length ≤ N
  | 0, L, _, h => by
    cases L with
    | nil => exact Nat.le_refl 0
    | cons x r =>
      have := h x (List.mem_cons_self ..)
      omega
  | N + 1, L, hn, h => by
    by_cases c : (N : Int) ∈ L
    · have ih := pig N (L.erase (N : Int)) (hn.erase _) (fun x hx => by
        have m := (hn.mem_erase_iff).1 hx
        have := h x m.2
        have m1 := m.1
        omega)
      rw [List.length_erase_of_mem c] at ih
      omega
    · have ih := pig N L hn (fun x hx => by
        have := h x hx
        by_cases e : x = N
        · rw [e] at hx
          exact absurd hx c
        · omega)
      omega
/-- the nodes in their order: a directory's nodes are added -/
def nuA (M : FM) (L : List Int) (e : Int) : Nat → List Int
  | 0 => L
  | n + 1 => if M 184 (e + n) ∈ nuA M L e n then nuA M L e n else nuA M L e n ++ [M 184 (e + n)]
def nuG (M : FM) : Nat → List Int
  | 0 => [0]
  | k + 1 => match (nuG M k)[k]? with
    | none => nuG M k
    | some x => nuA M (nuG M k) (fe M x) (ec M x)
def nuL (M : FM) : List Int := nuG M 2000
/-- a list of live nodes, none twice -/
def nuP (M : FM) (L : List Int) : Prop := L.Nodup ∧ ∀ x ∈ L, (0 ≤ x ∧ x < M 168 5) ∧ live M x
theorem nuP_len {M : FM} {L : List Int} (hW : twR M) (h : nuP M L) : L.length ≤ 2000 := by
  have w := hW.1.1
  have := pig (M 168 5).toNat L h.1 (fun x hx => by have := (h.2 x hx).1; omega)
  omega
theorem ent_live {M : FM} (hW : twR M) {k : Int} (h0 : 0 ≤ k) (h1 : k < M 168 20) : (0 < M 184 k ∧ M 184 k < M 168 5) ∧ live M (M 184 k) := by
  have e := (hW.2.2.2.1.2 k h0 h1).2.1
  refine ⟨e, Or.inr ?_⟩
  have c := (hW.2.2.2.2.2.2 (M 184 k) (by omega) e.2).1
  rw [c]
  exact cnt_pos (M 184) (M 184 k) (M 168 20).toNat k.toNat (by omega) (by rw [show ((k.toNat : Nat) : Int) = k by omega])
theorem nuP_add {M : FM} {L : List Int} {x : Int} (h : nuP M L) (hx : (0 ≤ x ∧ x < M 168 5) ∧ live M x) (hn : x ∉ L) : nuP M (L ++ [x]) := by
  refine ⟨?_, fun y hy => ?_⟩
  · rw [List.nodup_append]
    refine ⟨h.1, by simp, fun a ha b hb e => ?_⟩
    rw [List.mem_singleton.1 hb] at e
    rw [e] at ha
    exact hn ha
  · rcases List.mem_append.1 hy with z | z
    · exact h.2 y z
    · rw [List.mem_singleton.1 z]
      exact hx
theorem nuA_P {M : FM} (hW : twR M) {L : List Int} (h : nuP M L) {e : Int} (he : 0 ≤ e) : ∀ n : Nat, e + n ≤ M 168 20 → nuP M (nuA M L e n)
  | 0, _ => h
  | n + 1, hn => by
    have ih := nuA_P hW h he n (by omega)
    have l := ent_live hW (k := e + n) (by omega) (by omega)
    unfold nuA
    split
    · exact ih
    · rename_i c
      exact nuP_add ih ⟨by omega, l.2⟩ c
theorem nuA_pre (M : FM) (L : List Int) (e : Int) : ∀ n : Nat, ∃ X : List Int, nuA M L e n = L ++ X
  | 0 => ⟨[], (List.append_nil L).symm⟩
  | n + 1 => by
    obtain ⟨X, hX⟩ := nuA_pre M L e n
    unfold nuA
    split
    · exact ⟨X, hX⟩
    · exact ⟨X ++ [M 184 (e + n)], by rw [hX, List.append_assoc]⟩
theorem nuG_P {M : FM} (hW : twR M) : ∀ k : Nat, nuP M (nuG M k)
  | 0 => by
    have w := hW.1.1
    refine ⟨by simp [nuG], fun x hx => ?_⟩
    have e : x = 0 := List.mem_singleton.1 hx
    rw [e]
    exact ⟨by omega, Or.inl rfl⟩
  | k + 1 => by
    have ih := nuG_P hW k
    unfold nuG
    split
    · exact ih
    · rename_i x hx
      have r := fe_r hW x
      exact nuA_P hW ih r.1 _ (by omega)
/-- where all have been looked at, nothing more comes -/
theorem nuG_end {M : FM} {k : Nat} (h : (nuG M k).length ≤ k) : ∀ j : Nat, nuG M (k + j) = nuG M k
  | 0 => rfl
  | j + 1 => by
    have ih := nuG_end h j
    show (match (nuG M (k + j))[k + j]? with
      | none => nuG M (k + j)
      | some x => nuA M (nuG M (k + j)) (fe M x) (ec M x)) = nuG M k
    rw [ih, List.getElem?_eq_none (by omega)]
theorem nuL_at {M : FM} (hW : twR M) {k : Nat} (h : (nuG M k).length = k) : nuL M = nuG M k := by
  have l := nuP_len hW (nuG_P hW k)
  have := nuG_end (M := M) (k := k) (by omega) (2000 - k)
  unfold nuL
  rw [← this, show k + (2000 - k) = 2000 by omega]
/-- the class's freezer leaves of the tree's cells all but what it settles about a node -/
def fzF (sh : Nat → Option Shp) (M M2 : FM) : Prop := (∀ c : Nat, (c < 17 ∨ 50 ≤ c ∧ c ≤ 63 ∨ 97 ≤ c ∧ c < 265) → M2 c = M c) ∧ (∀ c : Nat, 265 ≤ c → (∀ fl, shp sh c ≠ some (.inr (3, fl))) → M2 c = M c) ∧ ∀ (c : Nat) (i : Int), (c = 17 ∨ 265 ≤ c) → i < 14 → M2 c i = M c i
theorem fzF_r (sh : Nat → Option Shp) (M : FM) : fzF sh M M := ⟨fun _ _ => rfl, fun _ _ _ => rfl, fun _ _ _ _ => rfl⟩
theorem fzF_t {sh : Nat → Option Shp} {M M2 M3 : FM} (h : fzF sh M M2) (g : fzF sh M2 M3) : fzF sh M M3 := ⟨fun c hc => (g.1 c hc).trans (h.1 c hc), fun c hc hf => (g.2.1 c hc hf).trans (h.2.1 c hc hf), fun c i hc hi => (g.2.2 c i hc hi).trans (h.2.2 c i hc hi)⟩
/-- freezer's own cells alone -/
theorem fzF_o {sh : Nat → Option Shp} {M M2 : FM} (h : ∀ c : Nat, (c < 18 ∨ 96 < c ∨ 50 ≤ c ∧ c ≤ 63) → M2 c = M c) : fzF sh M M2 := ⟨fun c hc => h c (by omega), fun c hc _ => h c (by omega), fun c i hc _ => by rw [h c (by omega)]⟩
theorem treeR_fz {sh : Nat → Option Shp} {M M2 : FM} (h : treeR sh M) (hz : fzF sh M M2) : treeR sh M2 := by
  obtain ⟨z1, z2, z3⟩ := hz
  have K : ∀ c : Nat, (c < 17 ∨ 168 ≤ c ∧ c < 265) → M2 c = M c := fun c hc => z1 c (by omega)
  have RK : ∀ {r b : Nat} {T : List Int}, rowD sh M r b T → rowD sh M2 r b T := by
    intro r b T hr
    refine rowD_keep hr rfl rfl (z2 r hr.2.1.1 (fun fl hf => ?_)) (z2 b hr.2.1.2.1 (fun fl hf => ?_))
    · rw [hr.1.1] at hf
      simp at hf
    · rw [hr.1.2] at hf
      simp at hf
  have LV : ∀ i, live M2 i = live M i := fun i => by unfold live; rw [K 177 (by omega)]
  have NM : ∀ i, nmL M2 i = nmL M i := fun i => by unfold nmL; rw [K 185 (by omega), K 186 (by omega), K 187 (by omega)]
  have e168 := K 168 (by omega)
  have k171 := K 171 (by omega)
  have k172 := K 172 (by omega)
  have k173 := K 173 (by omega)
  have k174 := K 174 (by omega)
  have k175 := K 175 (by omega)
  have k176 := K 176 (by omega)
  have k177 := K 177 (by omega)
  have k178 := K 178 (by omega)
  have k179 := K 179 (by omega)
  have k180 := K 180 (by omega)
  have k181 := K 181 (by omega)
  have k182 := K 182 (by omega)
  have k183 := K 183 (by omega)
  have k184 := K 184 (by omega)
  have k185 := K 185 (by omega)
  have k186 := K 186 (by omega)
  have q8 := K 8 (by omega)
  have q9 := K 9 (by omega)
  have q10 := K 10 (by omega)
  have q11 := K 11 (by omega)
  have q12 := K 12 (by omega)
  have q13 := K 13 (by omega)
  have q14 := K 14 (by omega)
  obtain ⟨⟨w1, w2, w3, w4, w5, w6, w7⟩, c1, c2, c3, c4⟩ := h
  refine ⟨⟨?_, ?_, ?_, ?_, ?_, ?_, ?_⟩, ?_, ?_, ?_, ?_⟩
  · unfold twN
    rw [e168, k171, k172, k173, k174, k175, k176, k178]
    exact w1
  · unfold twB
    rw [e168, k171, k179, k180]
    exact w2
  · unfold twD
    rw [e168, k171, k179, k180]
    exact w3
  · unfold twE
    simp only [e168, k171, k178, k183, k184, k185, k186, LV]
    exact w4
  · unfold twO ltK
    simp only [e168, k183, NM]
    exact w5
  · unfold twS
    rw [e168, k185, k186]
    exact w6
  · unfold twC
    rw [e168, k171, k177, k184]
    exact w7
  · unfold tcA
    rw [q8, q9, e168]
    exact c1
  · intro i i0 i1
    rw [e168] at i1
    rw [LV, q11]
    refine ⟨fun hl => ?_, (c2 i i0 i1).2⟩
    obtain ⟨a, ha, hR⟩ := (c2 i i0 i1).1 hl
    refine ⟨a, ha, ?_⟩
    obtain ⟨h9, t9, hS, hE, hF, hL, hD⟩ := hR
    have ka : ∀ i : Int, i < 14 → M2 a i = M a i := fun i hi => z3 a i hS.2 hi
    refine ⟨h9, t9, hS, ?_, ?_, ?_, ?_⟩
    · unfold ndE
      rw [ka 0 (by decide), ka 1 (by decide), ka 2 (by decide), ka 5 (by decide), ka 6 (by decide), ka 7 (by decide), ka 8 (by decide), ka 9 (by decide), ka 10 (by decide), e168, k171, k172, k173, k174, k175, k176, k177, k183]
      exact hE
    · unfold ndF
      rw [ka 11 (by decide), ka 12 (by decide), q9, q10, k171, k179, k180, k181]
      exact hF
    · unfold ndL
      rw [k171, k179, k180, k182]
      refine ⟨fun h3 => ?_, hL.2⟩
      obtain ⟨q, b, e1, e2⟩ := hL.1 h3
      exact ⟨q, b, e1, RK e2⟩
    · unfold ndD
      rw [ka 4 (by decide), k171, q11, k178]
      refine ⟨hD.1, fun h3 => ⟨(hD.2 h3).1, (hD.2 h3).2.1, fun hi => ?_⟩⟩
      obtain ⟨d1, d2⟩ := (hD.2 h3).2.2 hi
      refine ⟨d1, ?_⟩
      have hpl : live M (M 178 i) := by
        have hl2 : 0 < M 177 i := by
          rcases hl with q | q
          · omega
          · exact q
        obtain ⟨k, hk, e⟩ := cnt_ex (M 184) i (M 168 20).toNat (by have := (w7 i i0 i1).1; omega)
        obtain ⟨⟨f1, f2, f3, f4⟩, -, -, f5⟩ := w4.2 k (by omega) (by omega)
        rw [e] at f5
        rw [← f5 h3]
        exact f3
      have hP := (w1.2 i i0 i1).2.1 hi
      obtain ⟨a2, ha2, h92, t92, hS2, -⟩ := (c2 (M 178 i) hP.1 (by omega)).1 hpl
      have ea2 : (M 11 (M 178 i)).toNat = a2 := by omega
      rw [ea2] at d2 ⊢
      rw [z3 a2 4 hS2.2 (by decide)]
      exact d2
  · intro k k0 k1
    rw [e168] at k1
    rw [q11, q12, q13, q14, k183, k184, NM]
    obtain ⟨d1, d2, r, b, d3, d4⟩ := c3 k k0 k1
    exact ⟨d1, d2, r, b, d3, RK d4⟩
  · intro i j i0 i1 j0 j1 ij hi hj f1 f2
    rw [e168] at i1 j1
    rw [LV] at hi hj
    rw [k171] at f1 f2
    obtain ⟨a, ha, h9, t9, hS, -⟩ := (c2 i i0 i1).1 hi
    obtain ⟨b, hb, h92, t92, hS2, -⟩ := (c2 j j0 j1).1 hj
    have q := c4 i j i0 i1 j0 j1 ij hi hj f1 f2
    have ea : (M 11 i).toNat = a := by omega
    have eb : (M 11 j).toNat = b := by omega
    rw [q11]
    rw [ea, eb] at q ⊢
    rw [z3 a 11 hS.2 (by decide), z3 a 12 hS.2 (by decide), z3 b 11 hS2.2 (by decide), z3 b 12 hS2.2 (by decide)]
    exact q
section FIRST
variable {d nx zl : Nat} {K : Option TV → FH → Prop} {sh : Nat → Option Shp} {M : FM}
theorem first_Y {af : Nat} {h9 t9 : Option Nat} {F : Int} (hT : treeR sh M) (hS : shp sh af = some (.inr (3, nodeFl h9 t9))) (hF : M af 0 = F) (hFr : 0 ≤ F ∧ F ≤ 2000) (k : K (some (ti (fe M F))) (sh, M, nx, zl)) : fm_Y (d + 3) 58 [.ref 8, .ref af] (sh, M, nx, zl) K := by
  refine m58 [fx 8, gr af] ?_
  refine seek_Y (t := 15) (tb := 16) (tn := 0) (n := 0) hT ⟨⟨rfl, rfl⟩, by decide, by decide, by decide, by decide⟩ (by omega) (by omega) (by omega) hS hF hFr (fun p hp => ?_)
  rw [isLB_u hp (fe_lb hT.1 F)]
  exact k
theorem firstEntry_Y {F : Int} (hW : twR M) (hFr : 0 ≤ F ∧ F ≤ 2000) (k : K (some (ti (fe M F))) (sh, M, nx, zl)) : fm_Y (d + 1) 264 [.ref 168, .int (Int32.ofInt F)] (sh, M, nx, zl) K := by
  have h := hW.2.2.2.1.1
  have hr := fe_r hW F
  have lb := fe_lb hW F
  refine m264 [fx 168, ti F] ?_
  have L : ∀ (N : Nat) (e : Int), (fe M F - e).toNat < N → 0 ≤ e → e ≤ fe M F → fm_X d kd264 2 [some (fx 168), some (ti F), some (ti e)] [] (sh, M, nx, zl) K := by
    intro N
    induction N with
    | zero =>
      intro e hN
      omega
    | succ N ih =>
      intro e hN e0 e1
      refine s264_2 d K _ _ _ ?_
      refine ⟨by omega, fun w => ?_, fun w => ?_⟩
      · rw [show e = fe M F by omega]
        exact k
      · have n1 := (hW.2.2.2.1.2 e e0 (by omega)).1
        have n2 := hW.1.1
        refine ⟨by omega, ?_⟩
        refine ⟨by omega, fun w2 => ?_, fun w2 => ?_⟩
        · have q : ¬ e < fe M F := fun q => by
            rcases lb.2.1 e e0 q with z | ⟨z1, z2⟩
            · omega
            · rw [ordL_nil] at z2
              omega
          rw [show e = fe M F by omega]
          exact k
        · have q : e ≠ fe M F := fun q => absurd (Or.inl (by omega)) (lb.2.2 e (by omega) (by omega))
          exact ih (e + 1) (by omega) (by omega) (by omega)
  exact L ((fe M F - 0).toNat + 1) 0 (by omega) (by omega) hr.1
end FIRST
