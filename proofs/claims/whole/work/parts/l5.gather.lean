/-! PACKING: tokens are counted; the class -/
def tkY (t : Int × Int) : Int := if t.1 = 0 then t.2 else lnY t.1
def cyN : List (Int × Int) → Int → Int
  | [], _ => 0
  | t :: r, s => cyN r s + (if tkY t = s then 1 else 0)
def cdN : List (Int × Int) → Int → Int
  | [], _ => 0
  | t :: r, s => cdN r s + (if t.1 ≠ 0 ∧ dsY t.2 = s then 1 else 0)
/-- how often each symbol stands, with the end's -/
def cyS (T : List (Int × Int)) (s : Int) : Int := cyN T s + (if s = 256 then 1 else 0)
theorem cyN_add (T : List (Int × Int)) (t : Int × Int) (s : Int) : cyN (T ++ [t]) s = cyN T s + (if tkY t = s then 1 else 0) := by
  induction T with
  | nil =>
    show (0 : Int) + _ = 0 + _
    rfl
  | cons u r ih =>
    show cyN (r ++ [t]) s + _ = cyN r s + _ + _
    rw [ih]
    omega
theorem cdN_add (T : List (Int × Int)) (t : Int × Int) (s : Int) : cdN (T ++ [t]) s = cdN T s + (if t.1 ≠ 0 ∧ dsY t.2 = s then 1 else 0) := by
  induction T with
  | nil =>
    show (0 : Int) + _ = 0 + _
    rfl
  | cons u r ih =>
    show cdN (r ++ [t]) s + _ = cdN r s + _ + _
    rw [ih]
    omega
def tkOK (t : Int × Int) : Prop := (t.1 = 0 ∧ 0 ≤ t.2 ∧ t.2 < 256) ∨ ((3 ≤ t.1 ∧ t.1 ≤ 258) ∧ 1 ≤ t.2 ∧ t.2 ≤ 32768)
theorem lnY_r {n : Int} (h : 3 ≤ n ∧ n ≤ 258) : 257 ≤ lnY n ∧ lnY n ≤ 285 := by
  unfold lnY
  repeat' split
  all_goals omega
theorem dsY_r {x : Int} (h : 1 ≤ x ∧ x ≤ 32768) : 0 ≤ dsY x ∧ dsY x ≤ 29 := by
  unfold dsY
  repeat' split
  all_goals omega
theorem tkG_ok {f : Int → Int} {a e : Int} : ∀ (g : Nat) (p : Int), 0 ≤ p → ∀ t ∈ tkG f a e g p, tkOK t
  | 0, p, _, t, h => by cases h
  | g + 1, p, h0, t, h => by
    have r := bmS_r (f := f) (a := a) (e := e) h0
    have h' : t ∈ (if e ≤ p then [] else if (bmS f a e p).1 = 0 then (0, f (a + p) % 256) :: tkG f a e g (p + 1) else bmS f a e p :: tkG f a e g (p + (bmS f a e p).1)) := h
    split at h'
    · cases h'
    · split at h'
      · rcases List.mem_cons.1 h' with y | y
        · rw [y]
          exact Or.inl ⟨rfl, by dsimp only; omega, by dsimp only; omega⟩
        · exact tkG_ok g (p + 1) (by omega) t y
      · rcases List.mem_cons.1 h' with y | y
        · rw [y]
          exact Or.inr ⟨by omega, by omega, by omega⟩
        · exact tkG_ok g _ (by omega) t y
/-- tokens as they lie in the class: values modulo -/
def tkW (lc vc : Int → Int) (T : List (Int × Int)) : Prop := ∀ (i : Nat) (t : Int × Int), T[i]? = some t → lc i = t.1 ∧ vc i % 4294967296 = t.2 ∧ (t.1 = 0 → vc i = t.2)
theorem tkW_add {lc vc lc2 vc2 : Int → Int} {T : List (Int × Int)} {t : Int × Int} (h : tkW lc vc T) (e1 : ∀ i : Int, i < T.length → lc2 i = lc i ∧ vc2 i = vc i) (e2 : lc2 T.length = t.1 ∧ vc2 T.length % 4294967296 = t.2 ∧ (t.1 = 0 → vc2 T.length = t.2)) : tkW lc2 vc2 (T ++ [t]) := by
  intro i u hu
  rw [apG] at hu
  by_cases c : i < T.length
  · rw [if_pos c] at hu
    obtain ⟨a1, a2⟩ := h i u hu
    obtain ⟨b1, b2⟩ := e1 i (by omega)
    exact ⟨b1.trans a1, by rw [b2]; exact a2⟩
  · rw [if_neg c] at hu
    by_cases c2 : i = T.length
    · rw [if_pos c2] at hu
      injection hu with hu
      rw [c2, ← hu]
      exact e2
    · rw [if_neg c2] at hu
      cases hu
section GATHER
variable {d nx zl : Nat} {K : Option TV → FH → Prop} {sh : Nat → Option Shp} {M : FM} {c nc : Nat}
theorem disSym_M {x y : Int} {H : FH} (hxy : x % 4294967296 = y) (hy : 1 ≤ y ∧ y ≤ 32768) (k : K (some (ti (dsY y))) H) : fm_Y (d + 2) 79 [.int (Int32.ofInt x)] H K := by
  rw [i32_eqI (show x % 4294967296 = y % 4294967296 by omega)]
  exact disSym_Y hy k
theorem bitsDis_M {x y : Int} {H : FH} (hxy : x % 4294967296 = y) (hy : 1 ≤ y ∧ y ≤ 32768) (k : K (some (ti (eDs y))) H) : fm_Y (d + 1) 80 [.int (Int32.ofInt x)] H K := by
  rw [i32_eqI (show x % 4294967296 = y % 4294967296 by omega)]
  exact bitsDis_Y hy k
theorem clearCounts_Y {q cc n : Nat} {l : List (Option (Option Nat))} (hq : shp sh q = some (.inr (6, some (some cc) :: l))) (hcc : shp sh cc = some (.inl (.int, n))) (hn : n ≤ 2147483647) (h3 : 3 ≤ cc) (k : ∀ M2 : FM, (∀ x : Nat, x ≠ cc → M2 x = M x) → (∀ i : Int, 0 ≤ i → i < n → M2 cc i = 0) → K none (sh, M2, nx, zl)) : fm_Y (d + 1) 73 [.ref q] (sh, M, nx, zl) K := by
  refine m73 [gr q] ?_
  have L : ∀ (G : Nat) (i : Int) (M1 : FM), ((n : Int) - i).toNat < G → 0 ≤ i → i ≤ n → (∀ x : Nat, x ≠ cc → M1 x = M x) → (∀ j : Int, 0 ≤ j → j < i → M1 cc j = 0) → fm_X d kd73 2 [some (gr q), some (ti i)] [] (sh, M1, nx, zl) K := by
    intro G
    induction G with
    | zero => intro i M1 h; omega
    | succ G ih =>
      intro i M1 q1 q2 q3 F1 z1
      refine s73_2 d K _ _ _ ?_
      refine ⟨_, hq, ?_⟩
      refine ⟨_, _, hcc, ?_⟩
      refine ⟨by omega, fun w => k M1 F1 (fun j j0 j1 => z1 j j0 (by omega)), fun w => ?_⟩
      refine ⟨_, hq, ?_⟩
      refine ⟨n, hcc, ⟨h3, hn, by omega, by omega⟩, ?_⟩
      obtain ⟨P, gP⟩ : ∃ P : FM, P = pq M1 cc i 0 := ⟨_, rfl⟩
      have TL : fm_X d kd73 2 [some (gr q), some (ti (i + 1))] [] (sh, P, nx, zl) K := by
        refine ih (i + 1) P (by omega) (by omega) (by omega) (fun x hx => by rw [gP, pq_o _ _ _ hx]; exact F1 x hx) (fun j j0 j1 => ?_)
        by_cases e : j = i
        · rw [e, gP, pq_at]
        · rw [gP, pq_ne _ _ _ _ e]
          exact z1 j j0 (by omega)
      rw [gP] at TL
      exact TL
  exact L _ 0 M (Nat.lt_succ_self _) (by omega) (by omega) (fun _ _ => rfl) (fun j j0 j1 => by omega)
/-- what gathering leaves -/
def gaF (M M2 : FM) : Prop := (∀ x : Nat, x ≠ 22 → x ≠ 25 → x ≠ 26 → x ≠ 27 → x ≠ 28 → x ≠ 32 → x ≠ 39 → M2 x = M x) ∧ ∀ i : Int, i ≠ 3 → i ≠ 7 → M2 22 i = M 22 i
theorem gather_Y {a b e w kn : Int} {f : Int → Int} (hs : shp sh c = some (.inl (.byte, nc))) (hn : nc ≤ 131072) (hc : c < 22 ∨ 39 < c) (hf : M c = f) (ha : 0 ≤ a ∧ a + e ≤ nc) (hb : 0 ≤ b ∧ b ≤ e ∧ e ≤ b + 4096 ∧ e ≤ 65536) (hw : w2P w) (hm : M 22 4 = w - 1) (hk : M 22 3 = kn) (hkn : 0 ≤ kn ∧ kn ≤ b) (hch : chC M f a w kn)
    (k : ∀ M2 : FM, gaF M M2 → (0 ≤ M2 22 3 ∧ M2 22 3 ≤ e) → chC M2 f a w (M2 22 3) → M2 22 7 = (tkS f a b e).length → tkW (M2 27) (M2 28) (tkS f a b e) → (∀ s : Int, 0 ≤ s → s < 286 → M2 32 s = cyS (tkS f a b e) s) → (∀ s : Int, 0 ≤ s → s < 30 → M2 39 s = cdN (tkS f a b e) s) → K none (sh, M2, nx, zl)) : fm_Y (d + 3) 72 [.ref 22, .ref c, .int (Int32.ofInt a), .int (Int32.ofInt b), .int (Int32.ofInt e)] (sh, M, nx, zl) K := by
  have wr := w2_r hw
  obtain ⟨T, gT⟩ : ∃ T : List (Int × Int), T = tkS f a b e := ⟨_, rfl⟩
  rw [← gT] at k
  have hcn : c ≠ 22 ∧ c ≠ 25 ∧ c ≠ 26 ∧ c ≠ 27 ∧ c ≠ 28 ∧ c ≠ 32 ∧ c ≠ 39 := by omega
  clear hc
  refine m72 [fx 22, gr c, ti a, ti b, ti e] ?_
  have S1 : shp sh 29 = some (.inr (6, [some (some 32), some (some 33), some (some 34), some (some 35), some (some 30), some (some 31)])) := rfl
  have S2 : shp sh 36 = some (.inr (6, [some (some 39), some (some 40), some (some 41), some (some 42), some (some 37), some (some 38)])) := rfl
  refine clearCounts_Y (n := 286) S1 rfl (by omega) (by omega) (fun M1 F1 z1 => ?_)
  refine clearCounts_Y (n := 30) S2 rfl (by omega) (by omega) (fun M2 F2 z2 => ?_)
  have END : ∀ (p : Int) (pre : List (Int × Int)) (M3 : FM) (i : Int) (y7 y8 y9 y10 : Option TV), e ≤ p → (b ≤ p ∧ p ≤ e) → i = pre.length → i ≤ p - b → gaF M M3 → (0 ≤ M3 22 3 ∧ M3 22 3 ≤ p) → chC M3 f a w (M3 22 3) → M3 22 7 = i → tkW (M3 27) (M3 28) pre → (∀ s : Int, 0 ≤ s → s < 286 → M3 32 s = cyN pre s) → (∀ s : Int, 0 ≤ s → s < 30 → M3 39 s = cdN pre s) → T = pre → fm_X (d + 2) kd72 25 [some (fx 22), some (gr c), some (ti a), some (ti b), some (ti e), some (ti p), some (ti i), y7, y8, y9, y10] [] (sh, M3, nx, zl) K := by
    intro p pre M3 i y7 y8 y9 y10 h1 h2 h3 h4 F3 hkn3 hch3 h5 h6 h7 h8 h9
    rw [h9] at k
    have FIN : b72_200 (d + 2) (fW (d + 2) kd72 K) K [some (fx 22), some (gr c), some (ti a), some (ti b), some (ti e), some (ti p), some (ti i), y7, y8, y9, y10] [] (sh, M3, nx, zl) := by
      refine ⟨by omega, ?_⟩
      refine ⟨by omega, ?_⟩
      obtain ⟨P, gP⟩ : ∃ P : FM, P = pq M3 32 256 (M3 32 256 + 1) := ⟨_, rfl⟩
      have TL : K none (sh, P, nx, zl) := by
        have po : ∀ x : Nat, x ≠ 32 → P x = M3 x := fun x hx => by rw [gP, pq_o _ _ _ hx]
        refine k P ⟨fun x x1 x2 x3 x4 x5 x6 x7 => (po x x6).trans (F3.1 x x1 x2 x3 x4 x5 x6 x7), fun i i1 i2 => by rw [po 22 (by omega)]; exact F3.2 i i1 i2⟩ (by rw [po 22 (by omega)]; omega) ?_ (by rw [po 22 (by omega), h5, h3]) (by rw [po 27 (by omega), po 28 (by omega)]; exact h6) (fun s s0 s1 => ?_) (by rw [po 39 (by omega)]; exact h8)
        · rw [po 22 (by omega)]
          unfold chC
          rw [po 25 (by omega), po 26 (by omega)]
          exact hch3
        · unfold cyS
          by_cases c2 : s = 256
          · rw [c2, gP, pq_at, if_pos rfl, h7 256 (by omega) (by omega)]
          · rw [gP, pq_ne _ _ _ _ c2, if_neg c2, h7 s s0 s1]
            omega
      rw [gP] at TL
      exact TL
    refine s72_25 (d + 2) K _ _ _ ?_
    refine ⟨by omega, fun _ => FIN, fun _ => ?_⟩
    exact ⟨by omega, fun _ => FIN, fun q => by omega⟩
  -- the parts, one token after the other
  have L : ∀ (g : Nat) (p : Int) (pre : List (Int × Int)) (M3 : FM) (i : Int) (y7 y8 y9 y10 : Option TV), (e - p).toNat ≤ g → (b ≤ p ∧ p ≤ e) → i = pre.length → i ≤ p - b → gaF M M3 → (0 ≤ M3 22 3 ∧ M3 22 3 ≤ p) → chC M3 f a w (M3 22 3) → M3 22 7 = i → tkW (M3 27) (M3 28) pre → (∀ s : Int, 0 ≤ s → s < 286 → M3 32 s = cyN pre s) → (∀ s : Int, 0 ≤ s → s < 30 → M3 39 s = cdN pre s) → T = pre ++ tkG f a e g p → fm_X (d + 2) kd72 25 [some (fx 22), some (gr c), some (ti a), some (ti b), some (ti e), some (ti p), some (ti i), y7, y8, y9, y10] [] (sh, M3, nx, zl) K := by
    intro g
    induction g with
    | zero =>
      intro p pre M3 i y7 y8 y9 y10 h1 h2 h3 h4 F3 hkn3 hch3 h5 h6 h7 h8 h9
      have e0 : tkG f a e 0 p = [] := rfl
      rw [e0, List.append_nil] at h9
      exact END p pre M3 i y7 y8 y9 y10 (by omega) h2 h3 h4 F3 hkn3 hch3 h5 h6 h7 h8 h9
    | succ g ih =>
      intro p pre M3 i y7 y8 y9 y10 h1 h2 h3 h4 F3 hkn3 hch3 h5 h6 h7 h8 h9
      have e0 : tkG f a e (g + 1) p = if e ≤ p then [] else if (bmS f a e p).1 = 0 then (0, f (a + p) % 256) :: tkG f a e g (p + 1) else bmS f a e p :: tkG f a e g (p + (bmS f a e p).1) := rfl
      rw [e0] at h9
      by_cases ce : e ≤ p
      · rw [if_pos ce, List.append_nil] at h9
        exact END p pre M3 i y7 y8 y9 y10 ce h2 h3 h4 F3 hkn3 hch3 h5 h6 h7 h8 h9
      rw [if_neg ce] at h9
      have Rr := bmS_r (f := f) (a := a) (e := e) (p := p) (by omega)
      obtain ⟨R, gR⟩ : ∃ R : Int × Int, R = bmS f a e p := ⟨_, rfl⟩
      rw [← gR] at h9 Rr
      have m4 : M3 22 4 = w - 1 := (F3.2 4 (by omega) (by omega)).trans hm
      -- behind the match
      have B63 : ∀ M4 : FM, gaF M M4 → (0 ≤ M4 22 3 ∧ M4 22 3 ≤ p) → chC M4 f a w (M4 22 3) → M4 22 7 = i → M4 27 = M3 27 → M4 28 = M3 28 → M4 32 = M3 32 → M4 39 = M3 39 → b72_63 (d + 2) (fW (d + 2) kd72 K) K [some (fx 22), some (gr c), some (ti a), some (ti b), some (ti e), some (ti p), some (ti i), y7, y8, y9, y10] [tj (R.2 + R.1 * 4294967296)] (sh, M4, nx, zl) := by
        intro M4 F4 hk4 hc4 h74 e27 e28 e32 e39
        have fc : M4 c = f := (F4.1 c hcn.1 hcn.2.1 hcn.2.2.1 hcn.2.2.2.1 hcn.2.2.2.2.1 hcn.2.2.2.2.2.1 hcn.2.2.2.2.2.2).trans hf
        refine ⟨by omega, ?_⟩
        have ep : (2 : Int) ^ ((32 : Int)).toNat = 4294967296 := rfl
        rw [ep, show (R.2 + R.1 * 4294967296) / 4294967296 = R.1 by omega]
        -- the token is put
        have B94 : ∀ v : Int, (R.1 = 0 → v = f (a + p) % 256) → (R.1 ≠ 0 → v % 4294967296 = R.2) → b72_94 (d + 2) (fW (d + 2) kd72 K) K [some (fx 22), some (gr c), some (ti a), some (ti b), some (ti e), some (ti p), some (ti i), some (tj (R.2 + R.1 * 4294967296)), none, some (ti R.1), y10] [ti v] (sh, M4, nx, zl) := by
          intro v v0 v1
          refine ⟨by omega, ?_⟩
          refine ⟨by rw [um_ne (by omega)]; omega, ?_⟩
          obtain ⟨P1, g1⟩ : ∃ P1 : FM, P1 = pq M4 27 (M4 22 7) R.1 := ⟨_, rfl⟩
          obtain ⟨P2, g2⟩ : ∃ P2 : FM, P2 = pq P1 28 (P1 22 7) v := ⟨_, rfl⟩
          obtain ⟨P3, g3⟩ : ∃ P3 : FM, P3 = pq P2 22 7 (P2 22 7 + 1) := ⟨_, rfl⟩
          have a1 : P1 22 7 = i := by rw [g1, pq_o _ _ _ (by omega)]; exact h74
          have a2 : P2 22 7 = i := by rw [g2, pq_o _ _ _ (by omega)]; exact a1
          have a3 : P3 22 7 = i + 1 := by rw [g3, pq_at, a2]
          have b3 : ∀ x : Int, x ≠ 7 → P3 22 x = M4 22 x := fun x hx => by rw [g3, pq_ne _ _ _ _ hx, g2, pq_o _ _ _ (by omega), g1, pq_o _ _ _ (by omega)]
          have o3 : ∀ x : Nat, x ≠ 22 → x ≠ 27 → x ≠ 28 → P3 x = M4 x := fun x x1 x2 x3 => by rw [g3, pq_o _ _ _ x1, g2, pq_o _ _ _ x3, g1, pq_o _ _ _ x2]
          have V3 : ∀ t2 : Int, v % 4294967296 = t2 → (R.1 = 0 → v = t2) → tkW (P3 27) (P3 28) (pre ++ [(R.1, t2)]) := by
            intro t2 ht2 hl2
            refine tkW_add h6 (fun q hq => ?_) ⟨?_, ?_⟩
            · rw [g3, pq_o _ _ _ (by omega), pq_o _ _ _ (by omega), g2, pq_o _ _ _ (by omega), a1, pq_ne _ _ _ _ (by omega), g1, h74, pq_ne _ _ _ _ (by omega), pq_o _ _ _ (by omega), e27, e28]
              exact ⟨rfl, rfl⟩
            · rw [g3, pq_o _ _ _ (by omega), g2, pq_o _ _ _ (by omega), g1, h74, h3, pq_at]
            · rw [g3, pq_o _ _ _ (by omega), g2, a1, h3, pq_at]
              exact ⟨ht2, hl2⟩
          have hlen : ∀ u : Int × Int, (i + 1 : Int) = (pre ++ [u]).length := by
            intro u
            simp only [List.length_append, List.length_cons, List.length_nil]
            omega
          have T1 : (o_il 9 (o_if .ne (o_al 0 (o_get 5 8 8 (o_get 6 0 0 (o_il 9 (b72_162 (d + 2) (fW (d + 2) kd72 K) K))))) (o_al 0 (o_get 5 8 8 (o_get 6 0 0 (o_il 10 (b72_142 (d + 2) (fW (d + 2) kd72 K) K)))))) : FC) [some (fx 22), some (gr c), some (ti a), some (ti b), some (ti e), some (ti p), some (ti i), some (tj (R.2 + R.1 * 4294967296)), none, some (ti R.1), some (ti v)] [] (sh, P3, nx, zl) := by
            refine ⟨by omega, fun u => ?_, fun u => ?_⟩
            · -- a match
              rw [if_neg u] at h9
              have hv := v1 u
              refine lenSym_Y (by omega) ?_
              have lr := lnY_r (n := R.1) (by omega)
              have dr := dsY_r (x := R.2) (by omega)
              refine ⟨by omega, ?_⟩
              refine ⟨by omega, ?_⟩
              obtain ⟨P4, g4⟩ : ∃ P4 : FM, P4 = pq P3 32 (lnY R.1) (P3 32 (lnY R.1) + 1) := ⟨_, rfl⟩
              have T2 : (o_al 0 (o_get 5 9 9 (o_get 6 0 0 (o_il 10 (o_calls (d + 2) 79 1 (o_dup2 (o_iald (o_ic 1 (o_iadd (o_iast (o_il 5 (o_il 9 (o_iadd (o_is 5 (b72_194 (d + 2) (fW (d + 2) kd72 K) K)))))))))))))) : FC) [some (fx 22), some (gr c), some (ti a), some (ti b), some (ti e), some (ti p), some (ti i), some (tj (R.2 + R.1 * 4294967296)), none, some (ti R.1), some (ti v)] [] (sh, P4, nx, zl) := by
                refine disSym_M hv (by omega) ?_
                refine ⟨by omega, ?_⟩
                refine ⟨by omega, ?_⟩
                obtain ⟨P5, g5⟩ : ∃ P5 : FM, P5 = pq P4 39 (dsY R.2) (P4 39 (dsY R.2) + 1) := ⟨_, rfl⟩
                have o5 : ∀ x : Nat, x ≠ 32 → x ≠ 39 → P5 x = P3 x := fun x x1 x2 => by rw [g5, pq_o _ _ _ x2, g4, pq_o _ _ _ x1]
                have TL : fm_X (d + 2) kd72 25 [some (fx 22), some (gr c), some (ti a), some (ti b), some (ti e), some (ti (p + R.1)), some (ti (i + 1)), some (tj (R.2 + R.1 * 4294967296)), none, some (ti R.1), some (ti v)] [] (sh, P5, nx, zl) K := by
                  refine ih (p + R.1) (pre ++ [R]) P5 (i + 1) _ _ _ _ (by omega) (by omega) (hlen R) (by omega) ⟨fun x x1 x2 x3 x4 x5 x6 x7 => ?_, fun q q1 q2 => ?_⟩ ?_ ?_ ?_ ?_ (fun s s0 s1 => ?_) (fun s s0 s1 => ?_) ?_
                  · rw [o5 x x6 x7, o3 x x1 x4 x5]
                    exact F4.1 x x1 x2 x3 x4 x5 x6 x7
                  · rw [o5 22 (by omega) (by omega), b3 q q2]
                    exact F4.2 q q1 q2
                  · rw [o5 22 (by omega) (by omega), b3 3 (by omega)]
                    omega
                  · rw [o5 22 (by omega) (by omega), b3 3 (by omega)]
                    unfold chC
                    rw [o5 25 (by omega) (by omega), o5 26 (by omega) (by omega), o3 25 (by omega) (by omega) (by omega), o3 26 (by omega) (by omega) (by omega)]
                    exact hc4
                  · rw [o5 22 (by omega) (by omega)]
                    exact a3
                  · rw [o5 27 (by omega) (by omega), o5 28 (by omega) (by omega)]
                    exact V3 R.2 hv (fun z => absurd z u)
                  · have ey : tkY R = lnY R.1 := if_neg u
                    rw [cyN_add, ey, g5, pq_o _ _ _ (by omega), g4]
                    by_cases c2 : s = lnY R.1
                    · rw [← c2, pq_at, if_pos rfl, o3 32 (by omega) (by omega) (by omega), e32, h7 s s0 s1]
                    · rw [pq_ne _ _ _ _ c2, if_neg (fun z => c2 z.symm), o3 32 (by omega) (by omega) (by omega), e32, h7 s s0 s1]
                      omega
                  · have p439 : P4 39 = M3 39 := by rw [g4, pq_o _ _ _ (by omega), o3 39 (by omega) (by omega) (by omega), e39]
                    rw [cdN_add, g5]
                    by_cases c2 : s = dsY R.2
                    · rw [← c2, pq_at, if_pos ⟨u, rfl⟩, p439, h8 s s0 s1]
                    · rw [pq_ne _ _ _ _ c2, if_neg (fun z => c2 z.2.symm), p439, h8 s s0 s1]
                      omega
                  · rw [h9, List.append_assoc]
                    rfl
                rw [g5] at TL
                exact TL
              rw [g4] at T2
              exact T2
            · -- a byte
              have u0 : R.1 = 0 := by omega
              rw [if_pos u0] at h9
              have hv := v0 u0
              have vr : 0 ≤ v ∧ v < 256 := by omega
              refine ⟨by omega, ?_⟩
              refine ⟨by omega, ?_⟩
              obtain ⟨P4, g4⟩ : ∃ P4 : FM, P4 = pq P3 32 v (P3 32 v + 1) := ⟨_, rfl⟩
              have o4 : ∀ x : Nat, x ≠ 32 → P4 x = P3 x := fun x x1 => by rw [g4, pq_o _ _ _ x1]
              have TL : fm_X (d + 2) kd72 25 [some (fx 22), some (gr c), some (ti a), some (ti b), some (ti e), some (ti (p + 1)), some (ti (i + 1)), some (tj (R.2 + R.1 * 4294967296)), none, some (ti R.1), some (ti v)] [] (sh, P4, nx, zl) K := by
                refine ih (p + 1) (pre ++ [(R.1, v)]) P4 (i + 1) _ _ _ _ (by omega) (by omega) (hlen (R.1, v)) (by omega) ⟨fun x x1 x2 x3 x4 x5 x6 x7 => ?_, fun q q1 q2 => ?_⟩ ?_ ?_ ?_ ?_ (fun s s0 s1 => ?_) (fun s s0 s1 => ?_) ?_
                · rw [o4 x x6, o3 x x1 x4 x5]
                  exact F4.1 x x1 x2 x3 x4 x5 x6 x7
                · rw [o4 22 (by omega), b3 q q2]
                  exact F4.2 q q1 q2
                · rw [o4 22 (by omega), b3 3 (by omega)]
                  omega
                · rw [o4 22 (by omega), b3 3 (by omega)]
                  unfold chC
                  rw [o4 25 (by omega), o4 26 (by omega), o3 25 (by omega) (by omega) (by omega), o3 26 (by omega) (by omega) (by omega)]
                  exact hc4
                · rw [o4 22 (by omega)]
                  exact a3
                · rw [o4 27 (by omega), o4 28 (by omega)]
                  exact V3 v (by omega) (fun _ => rfl)
                · have ey : tkY (R.1, v) = v := if_pos u0
                  rw [cyN_add, ey, g4]
                  by_cases c2 : s = v
                  · rw [← c2, pq_at, if_pos rfl, o3 32 (by omega) (by omega) (by omega), e32, h7 s s0 s1]
                  · rw [pq_ne _ _ _ _ c2, if_neg (fun z => c2 z.symm), o3 32 (by omega) (by omega) (by omega), e32, h7 s s0 s1]
                    omega
                · rw [cdN_add, if_neg (fun z => z.1 u0), o4 39 (by omega), o3 39 (by omega) (by omega) (by omega), e39, h8 s s0 s1]
                  omega
                · rw [h9, u0, hv, List.append_assoc]
                  rfl
              rw [g4] at TL
              exact TL
          rw [g3, g2, g1] at T1
          exact T1
        refine ⟨by omega, fun u => B94 _ (fun z => absurd z u) (fun _ => by omega), fun u => ?_⟩
        refine ⟨nc, hs, ⟨by omega, by omega, by omega⟩, ?_⟩
        rw [fc]
        exact B94 _ (fun _ => rfl) (fun z => absurd u z)
      refine s72_25 (d + 2) K _ _ _ ?_
      refine ⟨by omega, fun q => by omega, fun _ => ?_⟩
      refine ⟨by omega, fun q => by omega, fun _ => ?_⟩
      have fc3 : M3 c = f := (F3.1 c hcn.1 hcn.2.1 hcn.2.2.1 hcn.2.2.2.1 hcn.2.2.2.2.1 hcn.2.2.2.2.2.1 hcn.2.2.2.2.2.2).trans hf
      refine ⟨by omega, fun q => ?_, fun q => ?_⟩
      · refine bestMatch_Y (w := w) (kn := M3 22 3) hs hn ⟨hcn.1, hcn.2.1, hcn.2.2.1⟩ fc3 ha (by omega) hw m4 rfl hkn3 hch3 (fun M4 F4 k4 c4 => ?_)
        rw [← gR]
        refine B63 M4 ⟨fun x x1 x2 x3 x4 x5 x6 x7 => (F4.1 x x1 x2 x3).trans (F3.1 x x1 x2 x3 x4 x5 x6 x7), fun q q1 q2 => (F4.2 q q1).trans (F3.2 q q1 q2)⟩ (by omega) (by rw [k4]; exact c4) ((F4.2 7 (by omega)).trans h5) (F4.1 27 (by omega) (by omega) (by omega)) (F4.1 28 (by omega) (by omega) (by omega)) (F4.1 32 (by omega) (by omega) (by omega)) (F4.1 39 (by omega) (by omega) (by omega))
      · have eR : R = (0, 0) := by
          rw [gR]
          exact if_neg (by omega)
        have T0 := B63 M3 F3 hkn3 hch3 h5 rfl rfl rfl rfl
        rw [eR] at T0
        exact T0
  obtain ⟨P, gP⟩ : ∃ P : FM, P = pq M2 22 7 0 := ⟨_, rfl⟩
  have po : ∀ x : Nat, x ≠ 22 → P x = M2 x := fun x hx => by rw [gP, pq_o _ _ _ hx]
  have pn : ∀ q : Int, q ≠ 7 → P 22 q = M 22 q := fun q hq => by rw [gP, pq_ne _ _ _ _ hq, F2 22 (by omega), F1 22 (by omega)]
  have TL : (o_il 3 (o_is 5 (o_ic 0 (o_is 6 (fW (d + 2) kd72 K 25)))) : FC) [some (fx 22), some (gr c), some (ti a), some (ti b), some (ti e), none, none, none, none, none, none] [] (sh, P, nx, zl) := by
    refine L (e - b).toNat b [] P 0 none none none none (Nat.le_refl _) (by omega) rfl (by omega) ⟨fun x x1 x2 x3 x4 x5 x6 x7 => (po x x1).trans ((F2 x x7).trans (F1 x x6)), fun q q1 q2 => pn q q2⟩ (by rw [pn 3 (by omega)]; omega) ?_ (by rw [gP, pq_at]) (fun i t h => by cases h) (fun s s0 s1 => ?_) (fun s s0 s1 => ?_) ?_
    · rw [pn 3 (by omega), hk]
      unfold chC
      rw [po 25 (by omega), po 26 (by omega), F2 25 (by omega), F2 26 (by omega), F1 25 (by omega), F1 26 (by omega)]
      exact hch
    · rw [po 32 (by omega), F2 32 (by omega)]
      exact z1 s s0 s1
    · rw [po 39 (by omega)]
      exact z2 s s0 s1
    · rw [gT]
      rfl
  rw [gP] at TL
  exact TL
end GATHER
