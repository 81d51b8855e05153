/-! FREEZING: data, all of it; the class -/
theorem twX_le {M : FM} {L : List Int} {x y : Int} {j : Nat} (h : twX M L x j = some y) : ∀ k : Nat, twX M L x (j + k) = some y
  | 0 => h
  | k + 1 => by
    have ih := twX_le h k
    show (match twX M L x (j + k) with
      | some y => some y
      | none => match L[j + k]? with
        | some y => if M 171 y = 2 ∧ fbL M y = fbL M x then some y else none
        | none => none) = some y
    rw [ih]
/-- a node's numbers, as the class keeps them -/
def naC (M : FM) (b : Nat) (g : Int → Int → Int) (y : Int) : Prop := M b 16 = g 0 y ∧ M b 17 = 4 * g 1 y ∧ M b 18 = g 4 y ∧ M b 19 = g 5 y
section FID
variable {op : Int} {B : Nat} {X : List Int} {x : Int} {s : DS}
theorem fiR_n (t : DS) (y j : Int) : dN (fiR op B X x t) j y = if rsN op B X.length = 0 then dN t j y else setN (setN (dN t) 4 x (dT (if (B : Int) < (dF t).length + rsN op B X.length then clD op t else t)).length) 5 x (dF (if (B : Int) < (dF t).length + rsN op B X.length then clD op t else t)).length j y := by
  unfold fiR
  split <;> rfl
theorem bkD_o (t : DS) : ∀ (i : Nat) (j y : Int), y ≠ x ∨ j ≠ 2 ∧ j ≠ 3 → dN (bkD op B X x t i) j y = dN t j y
  | 0, _, _, _ => rfl
  | i + 1, j, y, h => by
    show setN (setN (dN (bkD op B X x t i)) 3 x _) 2 x _ j y = _
    rw [setN_ne (by rcases h with z | z; exact Or.inr z; exact Or.inl z.1), setN_ne (by rcases h with z | z; exact Or.inr z; exact Or.inl z.2)]
    exact bkD_o t i j y h
theorem fi0_o {j y : Int} (h : y ≠ x) : dN (fi0 op B X x s) j y = dN s j y := by
  show setN (setN (setN (setN (setN (setN (dN s) 0 x _) 1 x _) 2 x 0) 3 x 0) 4 x (-1)) 5 x 0 j y = _
  rw [setN_ne (Or.inr h), setN_ne (Or.inr h), setN_ne (Or.inr h), setN_ne (Or.inr h), setN_ne (Or.inr h), setN_ne (Or.inr h)]
theorem fiD_o {j y : Int} (h : y ≠ x) : dN (fiD op B X x s) j y = dN s j y := by
  unfold fiD
  rw [fiR_n]
  split
  · rw [bkD_o _ _ _ _ (Or.inl h), fi0_o h]
  · rw [setN_ne (Or.inr h), setN_ne (Or.inr h), bkD_o _ _ _ _ (Or.inl h), fi0_o h]
theorem fi0_x : dN (fi0 op B X x s) 0 x = (if 0 < bkN op B X.length then ((dI s).length : Int) else 0) ∧ dN (fi0 op B X x s) 1 x = (dB s).length ∧ dN (fi0 op B X x s) 4 x = -1 ∧ dN (fi0 op B X x s) 5 x = 0 := by
  refine ⟨?_, ?_, ?_, ?_⟩
  · show setN (setN (setN (setN (setN (setN (dN s) 0 x (if 0 < bkN op B X.length then ((dI s).length : Int) else 0)) 1 x ((dB s).length : Int)) 2 x 0) 3 x 0) 4 x (-1)) 5 x 0 0 x = _
    rw [setN_ne (Or.inl (by decide)), setN_ne (Or.inl (by decide)), setN_ne (Or.inl (by decide)), setN_ne (Or.inl (by decide)), setN_ne (Or.inl (by decide)), setN_at]
  · show setN (setN (setN (setN (setN (setN (dN s) 0 x (if 0 < bkN op B X.length then ((dI s).length : Int) else 0)) 1 x ((dB s).length : Int)) 2 x 0) 3 x 0) 4 x (-1)) 5 x 0 1 x = _
    rw [setN_ne (Or.inl (by decide)), setN_ne (Or.inl (by decide)), setN_ne (Or.inl (by decide)), setN_ne (Or.inl (by decide)), setN_at]
  · show setN (setN (setN (setN (setN (setN (dN s) 0 x (if 0 < bkN op B X.length then ((dI s).length : Int) else 0)) 1 x ((dB s).length : Int)) 2 x 0) 3 x 0) 4 x (-1)) 5 x 0 4 x = _
    rw [setN_ne (Or.inl (by decide)), setN_at]
  · show setN (setN (setN (setN (setN (setN (dN s) 0 x (if 0 < bkN op B X.length then ((dI s).length : Int) else 0)) 1 x ((dB s).length : Int)) 2 x 0) 3 x 0) 4 x (-1)) 5 x 0 5 x = _
    rw [setN_at]
end FID
section CDATA2
variable {d nx zl : Nat} {K : Option TV → FH → Prop} {sh : Nat → Option Shp} {M0 M : FM} {op : Int} {B : Nat} {L : List Int}
theorem sharesData_Y {k : Nat} {x : Int} {a : Nat} (hT : treeR sh M0) (hz : fzF sh M0 M) (hP : nuP M0 L) (hU : cnU M L) (hk : L[k]? = some x) (hx2 : M0 171 x = 2) (ha : M0 11 x = a)
    (k0 : twX M0 L x k = none → K (some (ti 0)) (sh, M, nx, zl))
    (k1 : ∀ (y : Int) (b : Nat) (M2 : FM), twX M0 L x k = some y → y ∈ L.take k → M0 11 y = b → (∀ c : Nat, c ≠ a → M2 c = M c) → (∀ i : Int, (i < 16 ∨ 19 < i) → M2 a i = M a i) → (M2 a 16 = M b 16 ∧ M2 a 17 = M b 17 ∧ M2 a 18 = M b 18 ∧ M2 a 19 = M b 19) → K (some (ti 1)) (sh, M2, nx, zl)) : fm_Y (d + 2) 64 [.ref 18, .ref 9, .ref a] (sh, M, nx, zl) K := by
  have xl := hP.2 x (List.mem_of_getElem? hk)
  obtain ⟨a2, h9, t9, ea, hS, ha3, hE, hF, -⟩ := nd_of hT xl
  have ea2 : a2 = a := by omega
  rw [ea2] at hS ha3 hE hF
  have kl := (List.getElem?_eq_some_iff.1 hk).1
  have LL := nuP_len hT.1 hP
  have z11 : M 11 = M0 11 := hz.1 11 (by omega)
  have z10 : M 10 = M0 10 := hz.1 10 (by omega)
  have z9 : M0 9 1 = M0 168 17 := hT.2.1.2.2.2.2
  have t17 := hT.1.2.1.1
  have in14 : M a 14 = (k : Int) + 1 := by
    have := (hU.2.1 k x hk).2
    rw [z11, ha, show ((a : Int)).toNat = a from Int.toNat_natCast a] at this
    exact this
  have fa := hF.2.1 hx2
  refine m64 [fx 18, fx 9, gr a] ?_
  have LOOP : ∀ (N j : Nat) (y4 : Option TV), k - j < N → j ≤ k → twX M0 L x j = none → fm_X (d + 1) kd64 2 [some (fx 18), some (fx 9), some (gr a), some (ti ((j : Int) + 1)), y4] [] (sh, M, nx, zl) K := by
    intro N
    induction N with
    | zero =>
      intro j y4 hN
      omega
    | succ N ih =>
      intro j y4 hN hj hn
      refine s64_2 (d + 1) K _ _ _ ?_
      refine ⟨_, hS, ?_⟩
      rw [in14]
      refine ⟨by omega, fun w => ?_, fun w => ?_⟩
      · have e : j = k := by omega
        rw [e] at hn
        exact ⟨Or.inl rfl, k0 hn⟩
      · have hjl : j < L.length := by omega
        obtain ⟨y, hy⟩ : ∃ y, L[j]? = some y := ⟨_, List.getElem?_eq_getElem hjl⟩
        have yl := hP.2 y (List.mem_of_getElem? hy)
        obtain ⟨b, h8, t8, eb, hSb, hb3, hEb, hFb, -⟩ := nd_of hT yl
        have v := (hU.2.1 j y hy).1
        rw [z11, eb] at v
        have ne : y ≠ x := fun q => by
          rw [q] at hy
          have := nd_inj hP.1 hy hk
          omega
        have nab : b ≠ a := fun q => ne (ndc_inj hT yl xl (by omega))
        have fz : ∀ c : Nat, (c = 17 ∨ 265 ≤ c) → ∀ i : Int, i < 14 → M c i = M0 c i := fun c hc i hi => hz.2.2 c i hc hi
        have e1 : M b 1 = M0 171 y := by
          rw [fz b hb3 1 (by decide)]
          exact hEb.2.1
        have yk := (hT.1.1.2 y yl.1.1 yl.1.2).1
        have es : twX M0 L x (j + 1) = if M0 171 y = 2 ∧ fbL M0 y = fbL M0 x then some y else none := by
          show (match twX M0 L x j with
            | some y => some y
            | none => match L[j]? with
              | some y => if M0 171 y = 2 ∧ fbL M0 y = fbL M0 x then some y else none
              | none => none) = _
          rw [hn, hy]
        have NO : ¬ (M0 171 y = 2 ∧ fbL M0 y = fbL M0 x) → b64_109 (d + 1) (fW (d + 1) kd64 K) K [some (fx 18), some (fx 9), some (gr a), some (ti ((j : Int) + 1)), some (gr b)] [] (sh, M, nx, zl) := by
          intro hno
          have F := ih (j + 1) (some (gr b)) (by omega) (by omega) (by rw [es, if_neg hno])
          exact F
        refine ⟨by omega, fun m hm => ?_, fun hm => by omega⟩
        have em : m = b := by omega
        rw [em]
        refine ⟨_, hSb, ?_⟩
        rw [e1]
        refine ⟨by omega, fun w2 => NO (fun q => w2 q.1), fun w2 => ?_⟩
        have y2 : M0 171 y = 2 := by omega
        have fb := hFb.2.1 y2
        have a12 : M a 12 = M0 180 x := by
          rw [fz a ha3 12 (by decide)]
          exact fa.1
        have b12 : M b 12 = M0 180 y := by
          rw [fz b hb3 12 (by decide)]
          exact fb.1
        have a11 : M a 11 = M0 a 11 := fz a ha3 11 (by decide)
        have b11 : M b 11 = M0 b 11 := fz b hb3 11 (by decide)
        have xr := (hT.1.2.1.2 x xl.1.1 xl.1.2).1
        have yr := (hT.1.2.1.2 y yl.1.1 yl.1.2).1
        have xr2 := (hT.1.2.1.2 x xl.1.1 xl.1.2).2.1 hx2
        have yr2 := (hT.1.2.1.2 y yl.1.1 yl.1.2).2.1 y2
        refine ⟨_, hSb, ?_⟩
        refine ⟨_, hS, ?_⟩
        rw [a12, b12]
        have XL : ((fbL M0 x).length : Int) = M0 180 x := by
          unfold fbL
          rw [sl_len]
          omega
        have YL : ((fbL M0 y).length : Int) = M0 180 y := by
          unfold fbL
          rw [sl_len]
          omega
        refine ⟨by omega, fun w3 => NO (fun q => w3 (by rw [← XL, ← YL, q.2])), fun w3 => ?_⟩
        refine ⟨_, hSb, ?_⟩
        refine ⟨_, hSb, ?_⟩
        refine ⟨_, hS, ?_⟩
        refine ⟨_, hS, ?_⟩
        rw [a12, b12, a11, b11]
        have f1 := hF.1
        have f2 := hFb.1
        refine order_I (a := 10) (b := 10) (na := 65536) (nb := 65536) rfl rfl (by omega) (by omega) (by omega) (by omega) (by omega) (by omega) (by omega) (by omega) ?_
        have q1 : sl (M 10) (M0 b 11) (M0 180 y).toNat = fbL M0 y := by
          rw [z10, ← fb.1]
          exact fb.2.trans (by unfold fbL; rfl)
        have q2 : sl (M 10) (M0 a 11) (M0 180 x).toNat = fbL M0 x := by
          rw [z10, ← fa.1]
          exact fa.2.trans (by unfold fbL; rfl)
        rw [q1, q2]
        have orr : -131072 ≤ ordL (fbL M0 y) (fbL M0 x) ∧ ordL (fbL M0 y) (fbL M0 x) ≤ 131072 := by
          have := ordL_sl (M0 181) (M0 181) (M0 179 y) (M0 179 x) (M0 180 y).toNat (M0 180 x).toNat
          unfold fbL
          omega
        refine ⟨by omega, fun w4 => NO (fun q => w4 ((ordL_eq _ _).2 q.2)), fun w4 => ?_⟩
        have eq := (ordL_eq _ _).1 w4
        have tw : twX M0 L x k = some y := by
          have := twX_le (M := M0) (L := L) (x := x) (y := y) (j := j + 1) (by rw [es, if_pos ⟨y2, eq⟩]) (k - (j + 1))
          rw [show j + 1 + (k - (j + 1)) = k by omega] at this
          exact this
        have mem : y ∈ L.take k := by
          refine List.mem_of_getElem? (i := j) ?_
          rw [List.getElem?_take_of_lt (by omega)]
          exact hy
        obtain ⟨Q1, g1⟩ : ∃ Q1 : FM, Q1 = pq M a 16 (M b 16) := ⟨_, rfl⟩
        obtain ⟨Q2, g2⟩ : ∃ Q2 : FM, Q2 = pq Q1 a 17 (Q1 b 17) := ⟨_, rfl⟩
        obtain ⟨Q3, g3⟩ : ∃ Q3 : FM, Q3 = pq Q2 a 18 (Q2 b 18) := ⟨_, rfl⟩
        obtain ⟨Q4, g4⟩ : ∃ Q4 : FM, Q4 = pq Q3 a 19 (Q3 b 19) := ⟨_, rfl⟩
        have o1 : ∀ c : Nat, c ≠ a → Q1 c = M c := fun c hc => by rw [g1, pq_o _ _ _ hc]
        have o2 : ∀ c : Nat, c ≠ a → Q2 c = M c := fun c hc => by rw [g2, pq_o _ _ _ hc, o1 c hc]
        have o3 : ∀ c : Nat, c ≠ a → Q3 c = M c := fun c hc => by rw [g3, pq_o _ _ _ hc, o2 c hc]
        have o4 : ∀ c : Nat, c ≠ a → Q4 c = M c := fun c hc => by rw [g4, pq_o _ _ _ hc, o3 c hc]
        have F := k1 y b Q4 tw mem eb o4 (fun i hi => by rw [g4, pq_ne _ _ _ _ (by omega), g3, pq_ne _ _ _ _ (by omega), g2, pq_ne _ _ _ _ (by omega), g1, pq_ne _ _ _ _ (by omega)]) ⟨by rw [g4, pq_ne _ _ _ _ (by decide), g3, pq_ne _ _ _ _ (by decide), g2, pq_ne _ _ _ _ (by decide), g1, pq_at], by rw [g4, pq_ne _ _ _ _ (by decide), g3, pq_ne _ _ _ _ (by decide), g2, pq_at, o1 b nab], by rw [g4, pq_ne _ _ _ _ (by decide), g3, pq_at, o2 b nab], by rw [g4, pq_at, o3 b nab]⟩
        refine ⟨_, hSb, ?_⟩
        refine ⟨_, ⟨by omega, hS, rfl⟩, ?_⟩
        refine ⟨_, hSb, ?_⟩
        refine ⟨_, ⟨by omega, hS, rfl⟩, ?_⟩
        refine ⟨_, hSb, ?_⟩
        refine ⟨_, ⟨by omega, hS, rfl⟩, ?_⟩
        refine ⟨_, hSb, ?_⟩
        refine ⟨_, ⟨by omega, hS, rfl⟩, ?_⟩
        refine ⟨Or.inr rfl, ?_⟩
        rw [g4, g3, g2, g1] at F
        exact F
  exact LOOP (k + 1) 0 none (by omega) (by omega) rfl
/-- what putting data leaves -/
def dzF (sh : Nat → Option Shp) (M M2 : FM) : Prop := (∀ c : Nat, (c < 17 ∨ c = 21 ∨ 50 ≤ c ∧ c ≤ 63 ∨ 68 ≤ c ∧ c ≤ 77 ∨ 80 ≤ c ∧ c ≤ 89 ∨ 94 ≤ c ∧ c < 265) → M2 c = M c) ∧ (∀ i : Int, i ≠ 18 → M2 18 i = M 18 i) ∧ (∀ c : Nat, 265 ≤ c → (∀ fl, shp sh c ≠ some (.inr (3, fl))) → M2 c = M c) ∧ ∀ (c : Nat) (i : Int), (c = 17 ∨ 265 ≤ c) → (i < 16 ∨ 19 < i) → M2 c i = M c i
theorem dzF_r (sh : Nat → Option Shp) (M : FM) : dzF sh M M := ⟨fun _ _ => rfl, fun _ _ => rfl, fun _ _ _ => rfl, fun _ _ _ _ => rfl⟩
theorem dzF_t {M M2 M3 : FM} (h : dzF sh M M2) (g : dzF sh M2 M3) : dzF sh M M3 := ⟨fun c hc => (g.1 c hc).trans (h.1 c hc), fun i hi => (g.2.1 i hi).trans (h.2.1 i hi), fun c hc hf => (g.2.2.1 c hc hf).trans (h.2.2.1 c hc hf), fun c i hc hi => (g.2.2.2 c i hc hi).trans (h.2.2.2 c i hc hi)⟩
theorem dzF_fz {M M2 : FM} (h : dzF sh M M2) : fzF sh M M2 := ⟨fun c hc => h.1 c (by omega), h.2.2.1, fun c i hc hi => h.2.2.2 c i hc (by omega)⟩
theorem daF_dz {M M2 : FM} {a : Nat} {fl : List (Option (Option Nat))} (hS : shp sh a = some (.inr (3, fl))) (ha : a = 17 ∨ 265 ≤ a) (h : daF M M2 a) : dzF sh M M2 := by
  refine ⟨fun c hc => h.1 c (by omega) (by omega) (by omega) (by omega) (by omega) (by omega) (by omega), fun i hi => by rw [h.1 18 (by omega) (by omega) (by omega) (by omega) (by omega) (by omega) (by omega)], fun c hc hf => h.1 c (by omega) (by omega) (by omega) (by omega) (by omega) (fun e => hf fl (by rw [e]; exact hS)) (by omega), fun c i hc hi => ?_⟩
  by_cases e : c = a
  · rw [e]
    exact h.2 i hi
  · rw [h.1 c (by omega) (by omega) (by omega) (by omega) (by omega) e (by omega)]
theorem cfF_da {M M2 : FM} (h : cfF M M2) {a : Nat} (ha : a = 17 ∨ 265 ≤ a) : daF M M2 a := ⟨fun c h1 h2 h3 h4 h5 _ h7 => h c h1 h2 h3 h4 h5 h7, fun i _ => by rw [h a (by omega) (by omega) (by omega) (by omega) (by omega) (by omega)]⟩
theorem cfF_dz {M M2 : FM} (h : cfF M M2) : dzF sh M M2 := ⟨fun c hc => h c (by omega) (by omega) (by omega) (by omega) (by omega) (by omega), fun i hi => by rw [h 18 (by omega) (by omega) (by omega) (by omega) (by omega) (by omega)], fun c hc hf => h c (by omega) (by omega) (by omega) (by omega) (by omega) (by omega), fun c i hc hi => by rw [h c (by omega) (by omega) (by omega) (by omega) (by omega) (by omega)]⟩
theorem pkC_dz {M M2 : FM} (h : pkC M) (w : dzF sh M M2) : pkC M2 := ⟨by rw [w.1 1 (by omega)]; exact h.1, cdT_F h.2.1 (w.1 54 (by omega)) (w.1 55 (by omega)), cdT_F h.2.2 (w.1 61 (by omega)) (w.1 62 (by omega))⟩
theorem cnU_dz {M M2 : FM} (h : cnU M L) (w : dzF sh M M2) (hL : ∀ x : Int, 0 ≤ x → x < M 168 5 → live M x → (M 11 x).toNat = 17 ∨ 265 ≤ (M 11 x).toNat) (hP : nuP M L) : cnU M2 L := by
  obtain ⟨h1, h2, h3⟩ := h
  have e11 := w.1 11 (by omega)
  have e168 := w.1 168 (by omega)
  have e177 := w.1 177 (by omega)
  refine ⟨by rw [w.2.1 2 (by decide)]; exact h1, fun i x hx => ?_, fun x x0 x1 x2 x3 => ?_⟩
  · have xl := hP.2 x (List.mem_of_getElem? hx)
    rw [e11, w.1 21 (by omega), w.2.2.2 _ 14 (hL x xl.1.1 xl.1.2 xl.2) (by omega)]
    exact h2 i x hx
  · rw [e168] at x1
    have lv : live M x := by
      unfold live at x2 ⊢
      rw [e177] at x2
      exact x2
    rw [e11, w.2.2.2 _ 14 (hL x x0 x1 lv) (by omega)]
    exact h3 x x0 x1 lv x3
/-- the class's data: rows, and what it keeps of the files among the first k nodes -/
def dcS (M0 M : FM) (L : List Int) (k : Nat) (s : DS) : Prop := daC M s ∧ ∀ (i : Nat) (y : Int), i < k → L[i]? = some y → M0 171 y = 2 → naC M (M0 11 y).toNat (dN s) y
theorem putData_Y (hT : treeR sh M0) (hz : fzF sh M0 M) (hP : nuP M0 L) (hU : cnU M L) (hB : bB5 B) (hop : 0 ≤ op ∧ op ≤ 15) (h16 : M 18 16 = B) (h17 : M 18 17 = op) (hC : pkC M) (hD : daC M (dtD M0 op B L 0))
    (k : ∀ M2 : FM, dzF sh M M2 → dcS M0 M2 L L.length (dtE M0 op B L) → M2 18 18 = (dI (dtE M0 op B L)).length → K none (sh, M2, nx, zl)) : fm_Y (d + 8) 63 [.ref 18, .ref 8] (sh, M, nx, zl) K := by
  have br := bB5_r hB
  have LL := nuP_len hT.1 hP
  have z9 : M0 9 1 = M0 168 17 := hT.2.1.2.2.2.2
  have t17 := hT.1.2.1.1
  have hL : ∀ x : Int, 0 ≤ x → x < M 168 5 → live M x → (M 11 x).toNat = 17 ∨ 265 ≤ (M 11 x).toNat := by
    intro x x0 x1 x2
    have e168 : M 168 = M0 168 := hz.1 168 (by omega)
    have e177 : M 177 = M0 177 := hz.1 177 (by omega)
    have e11 : M 11 = M0 11 := hz.1 11 (by omega)
    have lv : live M0 x := by
      unfold live at x2 ⊢
      rw [e177] at x2
      exact x2
    rw [e168] at x1
    obtain ⟨b, _, _, eb, _, hb3, _⟩ := nd_of hT ⟨⟨x0, x1⟩, lv⟩
    rw [e11]
    omega
  have hPM : nuP M L := by
    have e168 : M 168 = M0 168 := hz.1 168 (by omega)
    have e177 : M 177 = M0 177 := hz.1 177 (by omega)
    refine ⟨hP.1, fun x hx => ?_⟩
    rw [e168]
    refine ⟨(hP.2 x hx).1, ?_⟩
    unfold live
    rw [e177]
    exact (hP.2 x hx).2
  refine m63 [fx 18, fx 8] ?_
  have LOOP : ∀ (N j : Nat) (M1 : FM) (y3 : Option TV), L.length - j < N → j ≤ L.length → dzF sh M M1 → dcS M0 M1 L j (dtD M0 op B L j) → fm_X (d + 7) kd63 2 [some (fx 18), some (fx 8), some (ti ((j : Int) + 1)), y3] [] (sh, M1, nx, zl) K := by
    intro N
    induction N with
    | zero =>
      intro j M1 y3 hN
      omega
    | succ N ih =>
      intro j M1 y3 hN hj f1 S1
      obtain ⟨Q1, Q0⟩ := dtD_q (op := op) hT.1 hP hB j hj
      obtain ⟨⟨q1, q2, q3⟩, ⟨A, A0, A1, A2⟩, q5, q6, q7⟩ := id Q1
      have szj := szS_le2 hT.1 hP j
      have C1 := pkC_dz hC f1
      have U1 := cnU_dz hU f1 hL hPM
      have z1 : fzF sh M0 M1 := fzF_t hz (dzF_fz f1)
      have c16 : M1 18 16 = B := by rw [f1.2.1 16 (by decide)]; exact h16
      have c17 : M1 18 17 = op := by rw [f1.2.1 17 (by decide)]; exact h17
      have u1 := U1.1
      refine s63_2 (d + 7) K _ _ _ ?_
      refine ⟨by omega, fun w => ?_, fun w => ?_⟩
      · have e : j = L.length := by omega
        refine closeFragment_Y hop c17 C1 S1.1 (by omega) (by omega) (fun M2 f2 D2 => ?_)
        have z2 := dzF_t f1 (cfF_dz (sh := sh) f2)
        have e19 : M2 19 1 = (dI (clD op (dtD M0 op B L j))).length := D2.1.2.1
        obtain ⟨Q, gQ⟩ : ∃ Q : FM, Q = pq M2 18 18 (M2 19 1) := ⟨_, rfl⟩
        have qo : ∀ c : Nat, c ≠ 18 → Q c = M2 c := fun c hc => by rw [gQ, pq_o _ _ _ hc]
        have F := k Q (dzF_t z2 ⟨fun c hc => qo c (by omega), fun i hi => by rw [gQ, pq_ne _ _ _ _ hi], fun c hc _ => qo c (by omega), fun c i hc _ => by rw [qo c (by omega)]⟩) ⟨?_, fun i y hi hy y2 => ?_⟩ ?_
        · rw [gQ] at F
          exact F
        · unfold dtE
          rw [← e]
          exact daC_F D2 (fun c hc => qo c (by omega))
        · have yl := hP.2 y (List.mem_of_getElem? hy)
          obtain ⟨b, _, _, eb, _, hb3, _⟩ := nd_of hT yl
          have := S1.2 i y (by omega) hy y2
          unfold naC at this ⊢
          unfold dtE
          rw [← e, (clD_n (op := op) (s := dtD M0 op B L j)).1]
          rw [qo _ (by omega), f2 _ (by omega) (by omega) (by omega) (by omega) (by omega) (by omega)]
          exact this
        · rw [gQ, pq_at, e19]
          unfold dtE
          rw [e]
      · have hjl : j < L.length := by omega
        obtain ⟨x, hx⟩ : ∃ x, L[j]? = some x := ⟨_, List.getElem?_eq_getElem hjl⟩
        have xl := hP.2 x (List.mem_of_getElem? hx)
        obtain ⟨a, h9, t9, ea, hS, ha3, hE, hF, -⟩ := nd_of hT xl
        have et : (M0 11 x).toNat = a := by omega
        have z11 : M1 11 = M0 11 := z1.1 11 (by omega)
        have v := (U1.2.1 j x hx).1
        rw [z11, ea] at v
        have e1 : M1 a 1 = M0 171 x := by
          rw [z1.2.2 a 1 ha3 (by decide)]
          exact hE.2.1
        have yk := (hT.1.1.2 x xl.1.1 xl.1.2).1
        have es : dtD M0 op B L (j + 1) = dtX M0 op B L j (dtD M0 op B L j) x := by
          show (match L[j]? with
            | none => dtD M0 op B L j
            | some x => dtX M0 op B L j (dtD M0 op B L j) x) = _
          rw [hx]
        have esz : szS M0 L (j + 1) = szS M0 L j + (if M0 171 x = 2 then M0 180 x else 0) := by
          show szS M0 L j + (match L[j]? with
            | none => 0
            | some x => if M0 171 x = 2 then M0 180 x else 0) = _
          rw [hx]
        have szn := szS_le2 hT.1 hP (j + 1)
        have NEXT : ∀ M2 : FM, dzF sh M M2 → dcS M0 M2 L (j + 1) (dtD M0 op B L (j + 1)) → b63_79 (d + 7) (fW (d + 7) kd63 K) K [some (fx 18), some (fx 8), some (ti ((j : Int) + 1)), some (gr a)] [] (sh, M2, nx, zl) := fun M2 f2 S2 => ih (j + 1) M2 (some (gr a)) (by omega) (by omega) f2 S2
        have OLD : ∀ (M2 : FM) (g2 : Int → Int → Int), (∀ c : Nat, (c = 17 ∨ 265 ≤ c) → c ≠ a → M2 c = M1 c) → (∀ i y : Int, y ≠ x → g2 i y = dN (dtD M0 op B L j) i y) → ∀ (i : Nat) (y : Int), i < j → L[i]? = some y → M0 171 y = 2 → naC M2 (M0 11 y).toNat g2 y := by
          intro M2 g2 hc hg i y hi hy y2
          have yl := hP.2 y (List.mem_of_getElem? hy)
          obtain ⟨b, _, _, eb, _, hb3, _⟩ := nd_of hT yl
          have ne : y ≠ x := fun q => by
            rw [q] at hy
            have := nd_inj hP.1 hy hx
            omega
          have nb : (M0 11 y).toNat ≠ a := fun q => ne (ndc_inj hT yl xl (by omega))
          have := S1.2 i y hi hy y2
          unfold naC at this ⊢
          rw [hc _ (by omega) nb, hg 0 y ne, hg 1 y ne, hg 4 y ne, hg 5 y ne]
          exact this
        refine ⟨by omega, fun m hm => ?_, fun hm => by omega⟩
        have em : m = a := by omega
        rw [em]
        refine ⟨_, hS, ?_⟩
        rw [e1]
        refine ⟨by omega, fun w2 => ?_, fun w2 => ?_⟩
        · have ex : dtX M0 op B L j (dtD M0 op B L j) x = dtD M0 op B L j := if_neg w2
          refine NEXT M1 f1 ⟨by rw [es, ex]; exact S1.1, fun i y hi hy y2 => ?_⟩
          rw [es, ex]
          by_cases ei : i = j
          · rw [ei, hx] at hy
            injection hy with hy
            rw [← hy] at y2
            exact absurd y2 w2
          · exact S1.2 i y (by omega) hy y2
        · have x2 : M0 171 x = 2 := by omega
          rw [if_pos x2] at esz
          have fa := hF.2.1 x2
          have xr := (hT.1.2.1.2 x xl.1.1 xl.1.2).1
          have xr2 := (hT.1.2.1.2 x xl.1.1 xl.1.2).2.1 x2
          have f11 := hF.1
          refine sharesData_Y (k := j) hT z1 hP U1 hx x2 ea (fun tw => ?_) (fun y b M2 tw ym eb oc on ofs => ?_)
          · have ex : dtX M0 op B L j (dtD M0 op B L j) x = fiD op B (fbL M0 x) x (dtD M0 op B L j) := by
              unfold dtX
              rw [if_pos x2, tw]
            have XL : ((fbL M0 x).length : Int) = M0 180 x := by
              unfold fbL
              rw [sl_len]
              omega
            obtain ⟨X, hXX⟩ : ∃ X, X = fbL M0 x := ⟨_, rfl⟩
            rw [← hXX] at XL ex
            have z10 : M1 10 = M0 10 := z1.1 10 (by omega)
            have hX : sl (M1 10) (M0 a 11) (M0 180 x).toNat = X := by
              rw [z10, ← fa.1, hXX]
              exact fa.2.trans (by unfold fbL; rfl)
            have a12 : M1 a 12 = M0 180 x := by
              rw [z1.2.2 a 12 ha3 (by decide)]
              exact fa.1
            have a11 : M1 a 11 = M0 a 11 := z1.2.2 a 11 ha3 (by decide)
            obtain ⟨s, hs⟩ : ∃ s, s = dtD M0 op B L j := ⟨_, rfl⟩
            rw [← hs] at Q1 q1 q2 q3 A1 A2 q5 q6 q7 ex OLD es
            have S1' := S1.1
            rw [← hs] at S1'
            obtain ⟨⟨i1, i2, i3, i4⟩, i5, i6⟩ := fi0_q (op := op) (B := B) (X := X) (x := x) j Q1 (by omega) (by omega) Q0
            obtain ⟨⟨m0, m1⟩, m2, m3, ⟨r0, r1, r2⟩, m4⟩ := bkN_b (op := op) (B := B) (n := M0 180 x) hB (by omega)
            refine ⟨by omega, fun w3 => by omega, fun _ => ?_⟩
            refine putBlocks_Y (s := fi0 op B X x s) (x := x) (X := X) hS ha3 hB hop c16 c17 C1 a11 a12 (by omega) (by omega) (by omega) hX ⟨by rw [i1]; exact S1'.1, by rw [i2]; exact S1'.2.1, by rw [i3]; exact S1'.2.2.1, by rw [i4]; exact S1'.2.2.2⟩ (by rw [i1]; omega) (by rw [i2]; omega) (by rw [i2]; exact q5) i5 i6 (fun M2 f2 D2 e16 e17 e18 e19 => ?_)
            have BQ := bkD_q (op := op) (B := B) (X := X) (x := x) (s := fi0 op B X x s) hB (by omega) (by rw [i2]; exact q5) i5 i6 (bkN op B (M0 180 x)).toNat (by omega)
            obtain ⟨t, ht⟩ : ∃ t, t = bkD op B X x (fi0 op B X x s) (bkN op B (M0 180 x)).toNat := ⟨_, rfl⟩
            rw [← ht] at D2 BQ
            rw [i1, i2, i3, i4] at BQ
            rw [i1] at e16
            rw [i2] at e17
            obtain ⟨⟨b1, b2⟩, ⟨b3, b4⟩, b5, ⟨b6, b7, b8⟩, b9, b10⟩ := BQ
            have b3l : (dF t).length = (dF s).length := by rw [b3]
            have b4l : (dT t).length = (dT s).length := by rw [b4]
            have z2 := dzF_t f1 (daF_dz hS ha3 f2)
            have c16' : M2 18 16 = B := by rw [z2.2.1 16 (by decide)]; exact h16
            have c17' : M2 18 17 = op := by rw [z2.2.1 17 (by decide)]; exact h17
            have C2 := pkC_dz hC z2
            have g12 : M2 a 12 = M0 180 x := by rw [f2.2 12 (by omega)]; exact a12
            have g11 : M2 a 11 = M0 a 11 := by rw [f2.2 11 (by omega)]; exact a11
            have g10 : M2 10 = M1 10 := f2.1 10 (by omega) (by omega) (by omega) (by omega) (by omega) (by omega) (by omega)
            have e90 : M2 90 1 = (dF t).length := D2.2.2.1.2.1
            obtain ⟨r, hr⟩ : ∃ r, r = rsN op B (M0 180 x) := ⟨_, rfl⟩
            obtain ⟨u, hu⟩ : ∃ u, u = (if (B : Int) < (dF t).length + r then clD op t else t) := ⟨_, rfl⟩
            have hfi : fiD op B X x s = fiR op B X x t := by
              unfold fiD
              rw [XL, ht]
            -- behind the rest
            have REST : ∀ M3 : FM, daF M2 M3 a → M3 a = M2 a → daC M3 u → b63_70 (d + 7) (fW (d + 7) kd63 K) K [some (fx 18), some (fx 8), some (ti ((j : Int) + 1)), some (gr a)] [] (sh, M3, nx, zl) := by
              intro M3 f3 ea3 D3
              have z3 := dzF_t z2 (daF_dz hS ha3 f3)
              have ul : ((dF u).length : Int) + r ≤ 65536 := by
                rw [hu]
                split
                · rw [clD_f]
                  show ((0 : Nat) : Int) + r ≤ 65536
                  omega
                · rename_i hh
                  omega
              refine putRest_Y (s := u) (n := M0 180 x) (p := M0 a 11) (X := X) (op := op) (B := B) hS ha3 hB hop (by rw [z3.2.1 16 (by decide)]; exact h16) (by rw [z3.2.1 17 (by decide)]; exact h17) (by rw [ea3]; exact g11) (by rw [ea3]; exact g12) (by omega) (by omega) (by omega) (by rw [f3.1 10 (by omega) (by omega) (by omega) (by omega) (by omega) (by omega) (by omega), g10]; exact hX) D3 (by rw [← hr]; exact ul) (fun M4 f4 D4 k16 k17 k18 k19 => ?_)
              have z4 := dzF_t z3 (daF_dz hS ha3 f4)
              rw [← hr] at D4 k18 k19
              have rx : rsN op B X.length = r := by rw [XL, hr]
              have NA : ∀ v : Int, dN (fiR op B X x t) v x = if r = 0 then dN t v x else setN (setN (dN t) 4 x (dT u).length) 5 x (dF u).length v x := by
                intro v
                rw [fiR_n, rx, ← hu]
              have tv : ∀ v : Int, v ≠ 2 → v ≠ 3 → dN t v x = dN (fi0 op B X x s) v x := fun v v1 v2 => b10 v x (Or.inr ⟨v1, v2⟩)
              have f0 := fi0_x (op := op) (B := B) (X := X) (x := x) (s := s)
              rw [XL] at f0
              refine NEXT M4 z4 ⟨?_, fun i y hi hy y2 => ?_⟩
              · rw [es, ex, hfi]
                unfold fiR
                rw [rx]
                by_cases c0 : r = 0
                · rw [if_pos c0]
                  have eu : u = t := by
                    rw [hu, if_neg (by rw [b3]; omega)]
                  rw [eu, c0] at D4
                  have ed : X.drop (X.length - (0 : Int).toNat) = [] := List.drop_of_length_le (by show X.length ≤ X.length - 0; omega)
                  rw [ed, List.append_nil] at D4
                  exact D4
                · rw [if_neg c0, ← hu]
                  have eb2 : dB t = dB u := by
                    rw [hu]
                    split
                    · exact (clD_n (op := op) (s := t)).2.symm
                    · rfl
                  rw [eb2]
                  exact D4
              · by_cases ei : i = j
                · rw [ei, hx] at hy
                  injection hy with hy
                  rw [← hy, et, es, ex, hfi]
                  unfold naC
                  rw [NA 0, NA 1, NA 4, NA 5, k16, k17, k18, k19, ea3, e16, e17]
                  by_cases c0 : r = 0
                  · rw [if_pos c0, if_pos c0, if_pos c0, if_pos c0, if_pos c0, if_pos c0, tv 0 (by decide) (by decide), tv 1 (by decide) (by decide), tv 4 (by decide) (by decide), tv 5 (by decide) (by decide), f0.1, f0.2.1, f0.2.2.1, f0.2.2.2]
                    exact ⟨rfl, rfl, rfl, rfl⟩
                  · rw [if_neg c0, if_neg c0, if_neg c0, if_neg c0, if_neg c0, if_neg c0]
                    rw [setN_ne (Or.inl (by decide)), setN_ne (Or.inl (by decide)), setN_ne (Or.inl (by decide)), setN_ne (Or.inl (by decide)), setN_ne (Or.inl (by decide)), setN_at, setN_at, tv 0 (by decide) (by decide), tv 1 (by decide) (by decide), f0.1, f0.2.1]
                    exact ⟨rfl, rfl, rfl, rfl⟩
                · refine OLD M4 _ (fun c hc hca => ?_) (fun i y hyx => ?_) i y (by omega) hy y2
                  · rw [f4.1 c (by omega) (by omega) (by omega) (by omega) (by omega) hca (by omega), f3.1 c (by omega) (by omega) (by omega) (by omega) (by omega) hca (by omega), f2.1 c (by omega) (by omega) (by omega) (by omega) (by omega) hca (by omega)]
                  · rw [es, ex]
                    exact fiD_o hyx
            refine restOf_Y (n := M0 180 x) (B := B) (op := op) hS g12 (by omega) c16' (by omega) c17' hop ?_
            refine ⟨by omega, fun w4 => ?_, fun w4 => ?_⟩
            · refine REST M2 (daF_r M2 a) rfl ?_
              rw [hu, if_neg (by omega)]
              exact D2
            · refine closeFragment_Y (s := t) hop c17' C2 D2 (by rw [b3]; omega) (by rw [b4]; omega) (fun M3 f3 D3 => ?_)
              refine REST M3 (cfF_da f3 ha3) (f3 a (by omega) (by omega) (by omega) (by omega) (by omega) (by omega)) ?_
              rw [hu, if_pos (by omega)]
              exact D3
          · have ex : dtX M0 op B L j (dtD M0 op B L j) x = (dI (dtD M0 op B L j), dB (dtD M0 op B L j), dF (dtD M0 op B L j), dT (dtD M0 op B L j), cpN (dN (dtD M0 op B L j)) x y) := by
              unfold dtX
              rw [if_pos x2, tw]
            obtain ⟨i0, hi0⟩ := List.getElem?_of_mem ym
            have i0l := (List.getElem?_eq_some_iff.1 hi0).1
            rw [List.length_take] at i0l
            rw [List.getElem?_take_of_lt (by omega)] at hi0
            have y2 : M0 171 y = 2 := by
              have H : ∀ q : Nat, twX M0 L x q = some y → M0 171 y = 2 := by
                intro q
                induction q with
                | zero => intro hq; cases hq
                | succ q ihq =>
                  intro hq
                  have hq2 : (match twX M0 L x q with
                    | some y => some y
                    | none => match L[q]? with
                      | some y => if M0 171 y = 2 ∧ fbL M0 y = fbL M0 x then some y else none
                      | none => none) = some y := hq
                  cases h1 : twX M0 L x q with
                  | some y' =>
                    rw [h1] at hq2
                    exact ihq (by rw [h1]; exact hq2)
                  | none =>
                    rw [h1] at hq2
                    cases h2 : L[q]? with
                    | none =>
                      rw [h2] at hq2
                      cases hq2
                    | some y' =>
                      rw [h2] at hq2
                      have hq3 : (if M0 171 y' = 2 ∧ fbL M0 y' = fbL M0 x then some y' else none) = some y := hq2
                      split at hq3
                      · rename_i hh
                        injection hq3 with hq3
                        rw [← hq3]
                        exact hh.1
                      · cases hq3
              exact H j tw
            have nay := S1.2 i0 y (by omega) hi0 y2
            have eby : (M0 11 y).toNat = b := by omega
            rw [eby] at nay
            have fD : daF M1 M2 a := ⟨fun c _ _ _ _ _ h6 _ => oc c h6, on⟩
            refine ⟨by omega, fun _ => ?_, fun w3 => by omega⟩
            refine NEXT M2 (dzF_t f1 (daF_dz hS ha3 fD)) ⟨?_, fun i z hi hz2 z2 => ?_⟩
            · rw [es, ex]
              exact daC_F S1.1 (fun c hc => oc c (by omega))
            · by_cases ei : i = j
              · rw [ei, hx] at hz2
                injection hz2 with hz2
                rw [← hz2, et, es, ex]
                unfold naC at nay ⊢
                have ec : ∀ v : Int, cpN (dN (dtD M0 op B L j)) x y v x = dN (dtD M0 op B L j) v y := fun v => if_pos rfl
                show M2 a 16 = cpN (dN (dtD M0 op B L j)) x y 0 x ∧ M2 a 17 = 4 * cpN (dN (dtD M0 op B L j)) x y 1 x ∧ M2 a 18 = cpN (dN (dtD M0 op B L j)) x y 4 x ∧ M2 a 19 = cpN (dN (dtD M0 op B L j)) x y 5 x
                rw [ec, ec, ec, ec, ofs.1, ofs.2.1, ofs.2.2.1, ofs.2.2.2]
                exact nay
              · rw [es, ex]
                refine OLD M2 _ (fun c _ hca => oc c hca) (fun i y' hyx => ?_) i z (by omega) hz2 z2
                exact if_neg hyx
  have F := LOOP (L.length + 1) 0 M none (by omega) (by omega) (dzF_r sh M) ⟨hD, fun i y hi => by omega⟩
  exact F
end CDATA2
