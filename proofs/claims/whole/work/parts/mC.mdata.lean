/-! FREEZING: data; the reference: bytes added, a row stored -/
/-- the reference's image in the making, but for its head; none: it was too much -/
def rbO (M : FM) (s : Option (List Int)) : Prop := (0 ≤ M 168 61 ∧ M 168 61 ≤ 131072) ∧ match s with
  | some X => M 168 61 = X.length ∧ (∀ (i : Nat) (y : Int), 96 ≤ i → X[i]? = some y → M 212 i % 256 = y) ∧ M 168 62 = 0
  | none => M 168 62 = 1
theorem rbO_F {M M2 : FM} {s : Option (List Int)} (h : rbO M s) (h1 : M2 168 61 = M 168 61) (h2 : M2 168 62 = M 168 62) (h3 : M2 212 = M 212) : rbO M2 s := by
  unfold rbO at *
  rw [h1, h2, h3]
  exact h
theorem rbO_nil {M : FM} {s : Option (List Int)} (h : rbO M s) : apO 131072 s [] = s := by
  cases s with
  | none => rfl
  | some X =>
    have h1 : M 168 61 = X.length := h.2.1
    have h2 := h.1.2
    rw [apO_fit (by show X.length + 0 ≤ 131072; omega), List.append_nil]
def adF (M M2 : FM) : Prop := (∀ c : Nat, c ≠ 168 → c ≠ 212 → M2 c = M c) ∧ ∀ i : Int, i ≠ 61 → i ≠ 62 → M2 168 i = M 168 i
theorem adF_r (M : FM) : adF M M := ⟨fun _ _ _ => rfl, fun _ _ _ => rfl⟩
theorem adF_t {M M2 M3 : FM} (h : adF M M2) (g : adF M2 M3) : adF M M3 := ⟨fun c h1 h2 => (g.1 c h1 h2).trans (h.1 c h1 h2), fun i h1 h2 => (g.2 i h1 h2).trans (h.2 i h1 h2)⟩
section MADD
variable {d nx zl : Nat} {K : Option TV → FH → Prop} {sh : Nat → Option Shp} {M : FM} {s : Option (List Int)}
theorem add_Y {x : Int} (h : rbO M s) (k : ∀ M2 : FM, adF M M2 → rbO M2 (apO 131072 s [x % 256]) → K none (sh, M2, nx, zl)) : fm_Y (d + 1) 300 [.ref 168, .int (Int32.ofInt x)] (sh, M, nx, zl) K := by
  obtain ⟨h0, h1⟩ := id h
  have FULL : M 168 61 = 131072 ∨ M 168 62 = 1 → apO 131072 s [x % 256] = none := by
    intro q
    cases s with
    | none => rfl
    | some X =>
      have h2 : M 168 61 = X.length ∧ (∀ (i : Nat) (y : Int), 96 ≤ i → X[i]? = some y → M 212 i % 256 = y) ∧ M 168 62 = 0 := h1
      refine apO_not ?_
      show ¬ X.length + 1 ≤ 131072
      rcases q with q | q <;> omega
  have B1 : M 168 61 = 131072 ∨ M 168 62 = 1 → b300_22 d (fW d kd300 K) K [some (fx 168), some (ti x)] [ti 1, fx 168] (sh, M, nx, zl) := by
    intro q
    refine ⟨Or.inr rfl, ?_⟩
    obtain ⟨Q, gQ⟩ : ∃ Q : FM, Q = pq M 168 62 1 := ⟨_, rfl⟩
    have q62 : Q 168 62 = 1 := by rw [gQ, pq_at]
    have T : (o_al 0 (o_get 12 62 62 (o_if .ne (b300_53 d (fW d kd300 K) K) (o_al 0 (o_get 12 60 60 (o_al 0 (o_get 12 61 61 (o_il 1 (o_i2b (o_bast (o_al 0 (o_dup (o_get 12 61 61 (o_ic 1 (o_iadd (o_put 12 61 61 (b300_53 d (fW d kd300 K) K)))))))))))))))) : FC) [some (fx 168), some (ti x)] [] (sh, Q, nx, zl) := by
      refine ⟨by omega, fun w => ?_, fun w => by omega⟩
      refine k Q ⟨fun c c1 _ => by rw [gQ, pq_o _ _ _ c1], fun i _ i2 => by rw [gQ, pq_ne _ _ _ _ i2]⟩ ?_
      rw [FULL q]
      refine ⟨?_, q62⟩
      rw [gQ, pq_ne _ _ _ _ (by decide)]
      exact h0
    rw [gQ] at T
    exact T
  refine m300 [fx 168, ti x] ?_
  have b62 : M 168 62 = 0 ∨ M 168 62 = 1 := by
    cases s with
    | none => exact Or.inr h1
    | some X => exact Or.inl h1.2.2
  refine ⟨by omega, fun w => B1 (Or.inr (by omega)), fun w => ?_⟩
  refine ⟨by omega, fun w2 => ?_, fun w2 => B1 (Or.inl w2)⟩
  have z62 : M 168 62 = 0 := by omega
  clear b62 B1 FULL
  cases s with
  | none =>
    have : M 168 62 = 1 := h1
    omega
  | some X =>
    have h2 : M 168 61 = X.length ∧ (∀ (i : Nat) (y : Int), 96 ≤ i → X[i]? = some y → M 212 i % 256 = y) ∧ M 168 62 = 0 := h1
    refine ⟨Or.inl rfl, ?_⟩
    obtain ⟨Q1, g1⟩ : ∃ Q1 : FM, Q1 = pq M 168 62 0 := ⟨_, rfl⟩
    have q62 : Q1 168 62 = 0 := by rw [g1, pq_at]
    have q61 : Q1 168 61 = X.length := by rw [g1, pq_ne _ _ _ _ (by decide), h2.1]
    have q1o : ∀ c : Nat, c ≠ 168 → Q1 c = M c := fun c hc => by rw [g1, pq_o _ _ _ hc]
    have T : (o_al 0 (o_get 12 62 62 (o_if .ne (b300_53 d (fW d kd300 K) K) (o_al 0 (o_get 12 60 60 (o_al 0 (o_get 12 61 61 (o_il 1 (o_i2b (o_bast (o_al 0 (o_dup (o_get 12 61 61 (o_ic 1 (o_iadd (o_put 12 61 61 (b300_53 d (fW d kd300 K) K)))))))))))))))) : FC) [some (fx 168), some (ti x)] [] (sh, Q1, nx, zl) := by
      refine ⟨by omega, fun w => by omega, fun _ => ?_⟩
      refine ⟨by omega, ?_⟩
      obtain ⟨Q2, g2⟩ : ∃ Q2 : FM, Q2 = pq Q1 212 (Q1 168 61) ((x + 128) % 256 - 128) := ⟨_, rfl⟩
      obtain ⟨Q3, g3⟩ : ∃ Q3 : FM, Q3 = pq Q2 168 61 (Q2 168 61 + 1) := ⟨_, rfl⟩
      have q3o : ∀ c : Nat, c ≠ 168 → c ≠ 212 → Q3 c = M c := fun c c1 c2 => by rw [g3, pq_o _ _ _ c1, g2, pq_o _ _ _ c2, q1o c c1]
      have q3n : ∀ i : Int, i ≠ 61 → i ≠ 62 → Q3 168 i = M 168 i := fun i i1 i2 => by rw [g3, pq_ne _ _ _ _ i1, g2, pq_o _ _ _ (by omega), g1, pq_ne _ _ _ _ i2]
      have q361 : Q3 168 61 = (X.length : Int) + 1 := by rw [g3, pq_at, g2, pq_o _ _ _ (by omega), q61]
      have q362 : Q3 168 62 = 0 := by rw [g3, pq_ne _ _ _ _ (by decide), g2, pq_o _ _ _ (by omega), q62]
      have F := k Q3 ⟨q3o, q3n⟩ (by
        rw [apO_fit (by show X.length + 1 ≤ 131072; omega)]
        have el : (X ++ [x % 256]).length = X.length + 1 := by
          rw [List.length_append]
          rfl
        refine ⟨by omega, by rw [q361, el]; rfl, fun i y hi hy => ?_, q362⟩
        rw [g3, pq_o _ _ _ (by omega), g2]
        by_cases e : i = X.length
        · rw [e, List.getElem?_append_right (Nat.le_refl _), Nat.sub_self] at hy
          rw [show ((i : Nat) : Int) = Q1 168 61 by omega, pq_at, show ((x + 128) % 256 - 128) % 256 = x % 256 by omega]
          exact Option.some.inj hy
        · have li : i < X.length := by
            have := (List.getElem?_eq_some_iff.1 hy).1
            omega
          rw [List.getElem?_append_left li] at hy
          rw [pq_ne _ _ _ _ (by omega), q1o 212 (by omega)]
          exact h2.2.1 i y hi hy)
      rw [g3, g2] at F
      exact F
    rw [g1] at T
    exact T
/-- what storing leaves -/
def stF (M M2 : FM) : Prop := (∀ x : Nat, x ≠ 168 → x ≠ 212 → (x < 188 ∨ 203 < x) → M2 x = M x) ∧ ∀ i : Int, i ≠ 28 → i ≠ 31 → i ≠ 42 → i ≠ 61 → i ≠ 62 → M2 168 i = M 168 i
theorem stF_a {M M2 : FM} (h : adF M M2) : stF M M2 := ⟨fun x x1 x2 _ => h.1 x x1 x2, fun i _ _ _ i4 i5 => h.2 i i4 i5⟩
theorem stF_t {M M2 M3 : FM} (h : stF M M2) (g : stF M2 M3) : stF M M3 := ⟨fun c h1 h2 h3 => (g.1 c h1 h2 h3).trans (h.1 c h1 h2 h3), fun i h1 h2 h3 h4 h5 => (g.2 i h1 h2 h3 h4 h5).trans (h.2 i h1 h2 h3 h4 h5)⟩
theorem store_Y {c nc : Nat} {p n op : Int} {X : List Int} (hs : shp sh c = some (.inl (.byte, nc))) (hnc : nc ≤ 131072) (hc : c < 168 ∨ 212 < c ∨ c = 181) (hp : 0 ≤ p) (hn : 1 ≤ n ∧ n ≤ 65536) (hpn : p + n ≤ nc) (hX : sl (M c) p n.toNat = X) (hop : 0 ≤ op ∧ op ≤ 15) (h69 : M 168 69 = op) (hto : rbO M s) (k : ∀ M2 : FM, stF M M2 → rbO M2 (apO 131072 s (stB op X).1) → K (some (ti (stB op X).2)) (sh, M2, nx, zl)) : fm_Y (d + 19) 270 [.ref 168, .ref c, .int (Int32.ofInt p), .int (Int32.ofInt n)] (sh, M, nx, zl) K := by
  have xl : (X.length : Int) = n := by
    rw [← hX, sl_len]
    omega
  have pp := pkL_pos X (by omega)
  have hc3 : c ≠ 168 ∧ c ≠ 212 ∧ c ≠ 188 := by omega
  refine m270 [fx 168, gr c, ti p, ti n] ?_
  refine ⟨_, (iand_op (op := M 168 69) (by rw [h69]; exact hop)).1, ?_⟩
  have LOOP : ∀ (pk : Int) (Y : List Int) (v : Int), stB op X = (Y, v) → (0 ≤ pk ∧ pk ≤ 65642) → (pk < n → (Y.length : Int) = pk ∧ v = pk) → (n ≤ pk → Y = X ∧ v = n + 16777216) → ∀ (N i : Nat) (M1 : FM), Y.length - i < N → i ≤ Y.length → stF M M1 → rbO M1 (apO 131072 s (Y.take i)) → (pk < n → ∀ (q : Nat) (y : Int), Y[q]? = some y → M1 188 q % 256 = y % 256 ∧ 0 ≤ y ∧ y < 256) → fm_X (d + 18) kd270 25 [some (fx 168), some (gr c), some (ti p), some (ti n), some (ti pk), some (ti i)] [] (sh, M1, nx, zl) K := by
    intro pk Y v hst hpk hy1 hy2 N
    induction N with
    | zero =>
      intro i M1 hN
      omega
    | succ N ih =>
      intro i M1 hN hi f1 w1 h188
      have e69 : M1 c = M c := f1.1 c hc3.1 hc3.2.1 (by omega)
      have mY : ∀ mn : Int, (mn = pk ∧ pk < n ∨ mn = n ∧ n ≤ pk) → b270_39 (d + 18) (fW (d + 18) kd270 K) K [some (fx 168), some (gr c), some (ti p), some (ti n), some (ti pk), some (ti i)] [ti mn, ti i] (sh, M1, nx, zl) := by
        intro mn hmn
        have yl : (Y.length : Int) = mn := by
          rcases hmn with ⟨q1, q2⟩ | ⟨q1, q2⟩
          · rw [(hy1 q2).1, q1]
          · rw [(hy2 q2).1, xl, q1]
        have mr : 0 ≤ mn ∧ mn ≤ 65642 := by omega
        have DONE : i = Y.length → K (some (ti v)) (sh, M1, nx, zl) := by
          intro e
          have F := k M1 f1 (by
            rw [hst]
            rw [e, List.take_length] at w1
            exact w1)
          rw [hst] at F
          exact F
        have PUT : ∀ y x : Int, Y[i]? = some y → x % 256 = y → ∀ y5 : Option TV, fm_Y (d + 18) 300 [.ref 168, .int (Int32.ofInt x)] (sh, M1, nx, zl) (fun w h2 => o_inc 5 1 (fW (d + 18) kd270 K 25) [some (fx 168), some (gr c), some (ti p), some (ti n), some (ti pk), some (ti i)] (w.toList ++ []) h2) := by
          intro y x hy hxy _
          refine add_Y w1 (fun M2 f2 w2 => ?_)
          have et : Y.take (i + 1) = Y.take i ++ [x % 256] := by
            rw [List.take_succ, hy, hxy]
            rfl
          rw [apO_app, ← et] at w2
          have il := (List.getElem?_eq_some_iff.1 hy).1
          refine ih (i + 1) M2 (by omega) (by omega) (stF_t f1 (stF_a f2)) w2 (fun hq q y2 hy2 => ?_)
          rw [f2.1 188 (by omega) (by omega)]
          exact h188 hq q y2 hy2
        refine ⟨by omega, fun w => ?_, fun w => ?_⟩
        · have e : i = Y.length := by omega
          refine ⟨by omega, fun w2 => ?_, fun w2 => ?_⟩
          · refine ⟨_, i32_or (k := 24) (x := n) (y := 1) (p := 16777216) (by omega) (by decide) rfl (by omega) (by omega), ?_⟩
            have F := DONE e
            rw [(hy2 w2).2, show n + 16777216 = n + 1 * 16777216 by omega] at F
            exact F
          · have F := DONE e
            rw [(hy1 w2).2] at F
            exact F
        · have hil : i < Y.length := by omega
          obtain ⟨y, hy⟩ : ∃ y, Y[i]? = some y := ⟨_, List.getElem?_eq_getElem hil⟩
          refine ⟨by omega, fun w2 => ?_, fun w2 => ?_⟩
          · refine ⟨nc, hs, ⟨by omega, by omega, by omega⟩, ?_⟩
            refine PUT y _ hy ?_ none
            have g := sl_get (f := M c) n.toNat p i (by omega)
            rw [hX, ← (hy2 w2).1, hy] at g
            injection g with g
            rw [e69, g]
            omega
          · refine ⟨by omega, ?_⟩
            refine PUT y _ hy ?_ none
            have g := h188 w2 i y hy
            omega
      refine s270_25 (d + 18) K _ _ _ ?_
      refine ⟨by omega, fun w => ?_, fun w => ?_⟩
      · exact mY n (Or.inr ⟨rfl, by omega⟩)
      · exact mY pk (Or.inl ⟨rfl, by omega⟩)
  have START : ∀ (pk : Int) (M1 : FM), pk = (if op / 2 % 2 = 0 then ((pkL X).length : Int) else n) → stF M M1 → rbO M1 s → (pk < n → ∀ (q : Nat) (y : Int), (pkL X)[q]? = some y → M1 188 q % 256 = y % 256 ∧ 0 ≤ y ∧ y < 256) → b270_20 (d + 18) (fW (d + 18) kd270 K) K [some (fx 168), some (gr c), some (ti p), some (ti n), none, none] [ti pk] (sh, M1, nx, zl) := by
    intro pk M1 hpk f1 w1 h188
    have pr : 0 ≤ pk ∧ pk ≤ 65642 := by
      rw [hpk]
      split <;> omega
    by_cases c2 : pk < n
    · have ho : op / 2 % 2 = 0 := by
        by_cases q : op / 2 % 2 = 0
        · exact q
        · rw [if_neg q] at hpk
          omega
      rw [if_pos ho] at hpk
      have es : stB op X = (pkL X, ((pkL X).length : Int)) := by
        unfold stB
        rw [if_pos ⟨ho, by omega⟩]
      refine LOOP pk (pkL X) _ es pr (fun _ => ⟨hpk.symm, hpk.symm⟩) (fun q => by omega) ((pkL X).length + 1) 0 M1 (by omega) (by omega) f1 ?_ h188
      rw [List.take_zero, rbO_nil w1]
      exact w1
    · have es : stB op X = (X, (X.length : Int) + 16777216) := by
        unfold stB
        rw [if_neg ?_]
        intro hh
        rw [if_pos hh.1] at hpk
        omega
      refine LOOP pk X _ es pr (fun q => absurd q c2) (fun q => ⟨rfl, by omega⟩) (X.length + 1) 0 M1 (by omega) (by omega) f1 ?_ (fun q => absurd q c2)
      rw [List.take_zero, rbO_nil w1]
      exact w1
  refine ⟨by omega, fun w => ?_, fun w => ?_⟩
  · exact START n M (by rw [if_neg (by omega)]) ⟨fun _ _ _ _ => rfl, fun _ _ _ _ _ _ => rfl⟩ hto (fun q => by omega)
  · have ho : op / 2 % 2 = 0 := by omega
    have e5 := pk_lf (f := M c) (a := p) (n := n.toNat) hX
    rw [show ((n.toNat : Nat) : Int) = n by omega] at e5
    have eL : ((pkS (M c) p n).length / 8 : Nat) = (pkL X).length := by rw [pkL_len, ← e5]
    refine mpack_Y (c := c) (nc := nc) (f := M c) hs hnc (by omega) rfl (by omega) ⟨hp, hpn⟩ (fun M2 p2 v2 => ?_)
    rw [eL]
    refine START _ M2 (by rw [if_pos ho]) ⟨fun x x1 x2 x3 => p2.1 x (by omega), fun i i1 i2 i3 _ _ => p2.2 i i1 i2 i3⟩ (rbO_F hto (p2.2 61 (by decide) (by decide) (by decide)) (p2.2 62 (by decide) (by decide) (by decide)) (p2.1 212 (by omega))) (fun _ q y hy => ?_)
    obtain ⟨h1, h2⟩ := pkL_at hy
    rw [← e5] at h1 h2
    have br := byB_r v2.1.2 q
    have v3 := v2.2 q (by omega)
    rw [v3, h2]
    unfold by1
    rw [Int.ediv_one]
    omega
end MADD
