/-! PACKING: what was packed is read back: the tellers -/
theorem tlG_tl {f : Int → Int} {E : Int} {tl tl2 : Int → Int} {al : Int} (h : ∀ p : Int, sy f E tl2 19 p = sy f E tl 19 p) : ∀ (g : Nat) (p i : Int) (r : Int → Int), tlG f E tl2 al g p i r = tlG f E tl al g p i r
  | 0, _, _, _ => rfl
  | g + 1, p, i, r => by
    show (if al ≤ i then some (p, r) else match sy f E tl2 19 p with
      | none => none
      | some (t, p1) => match tlP f E t p1 i r with
        | none => none
        | some (v, n, p2) => if i + n ≤ al then tlG f E tl2 al g p2 (i + n) (fillU r i n v) else none) = if al ≤ i then some (p, r) else match sy f E tl 19 p with
      | none => none
      | some (t, p1) => match tlP f E t p1 i r with
        | none => none
        | some (v, n, p2) => if i + n ≤ al then tlG f E tl al g p2 (i + n) (fillU r i n v) else none
    rw [h p]
    cases sy f E tl 19 p with
    | none => rfl
    | some q =>
      obtain ⟨t, p1⟩ := q
      dsimp only
      cases tlP f E t p1 i r with
      | none => rfl
      | some q2 =>
        obtain ⟨v, n, p2⟩ := q2
        dsimp only
        rw [tlG_tl h g]
theorem tlG_s {f : Int → Int} {E : Int} {tl : Int → Int} {al : Int} {g : Nat} {p i t p1 : Int} {r : Int → Int} (hs : sy f E tl 19 p = some (t, p1)) (hi : ¬ al ≤ i) : tlG f E tl al (g + 1) p i r = match tlP f E t p1 i r with
        | none => none
        | some (v, n, p2) => if i + n ≤ al then tlG f E tl al g p2 (i + n) (fillU r i n v) else none := by
  show (if al ≤ i then some (p, r) else match sy f E tl 19 p with
      | none => none
      | some (t, p1) => match tlP f E t p1 i r with
        | none => none
        | some (v, n, p2) => if i + n ≤ al then tlG f E tl al g p2 (i + n) (fillU r i n v) else none) = _
  rw [if_neg hi, hs]
theorem tlG_n {f : Int → Int} {E : Int} {tl : Int → Int} {al : Int} {g : Nat} {p i : Int} {r : Int → Int} (hs : sy f E tl 19 p = none) (hi : ¬ al ≤ i) : tlG f E tl al (g + 1) p i r = none := by
  show (if al ≤ i then some (p, r) else match sy f E tl 19 p with
      | none => none
      | some (t, p1) => match tlP f E t p1 i r with
        | none => none
        | some (v, n, p2) => if i + n ≤ al then tlG f E tl al g p2 (i + n) (fillU r i n v) else none) = _
  rw [if_neg hi, hs]
def tqN (t m : Int) : Int := if t < 16 then 1 else if t = 18 then 11 + m else 3 + m
def tqV (t : Int) (r : Int → Int) (i : Int) : Int := if t < 16 then t else if t = 16 then r (i - 1) else 0
section DECL
variable {g : Int → Int} {E : Int} {lt : Int → Int} {al : Int}
theorem dec_tp {t m p1 i : Int} {r : Int → Int} {q : Int × Int × Int} (ok : ttOK (t, m)) (hb : bAt g p1 (nbL m (tbE t).toNat)) (h : tlP g E t p1 i r = some q) : q = (tqV t r i, tqN t m, p1 + tbE t) := by
  obtain ⟨⟨t0, t1⟩, m0, m1⟩ := ok
  have t0' : 0 ≤ t := t0
  have t1' : t ≤ 18 := t1
  have m0' : 0 ≤ m := m0
  have m1' : m < 2 ^ (tbE t).toNat := m1
  have b := bAt_nb _ hb
  unfold tlP at h
  unfold tqV tqN
  by_cases c : t < 16
  · rw [if_pos c] at h ⊢
    rw [if_pos c]
    have e : tbE t = 0 := by
      unfold tbE
      rw [if_neg (by omega), if_neg (by omega), if_neg (by omega)]
    injection h with h
    rw [← h, e, Int.add_zero]
  · rw [if_neg c] at h ⊢
    rw [if_neg c]
    by_cases c2 : t = 16
    · have e : tbE t = 2 := by
        unfold tbE
        rw [if_pos c2]
      rw [e] at b m1' ⊢
      rw [show (2 : Int).toNat = 2 from rfl, show (2 : Int) ^ 2 = 4 from rfl] at b m1'
      rw [if_pos c2] at h ⊢
      rw [if_neg (by omega)]
      by_cases c3 : i = 0
      · rw [if_pos c3] at h
        cases h
      · rw [if_neg c3] at h
        by_cases c4 : p1 + 2 ≤ E
        · rw [if_pos c4, b, show m % 4 = m by omega] at h
          injection h with h
          exact h.symm
        · rw [if_neg c4] at h
          cases h
    · rw [if_neg c2] at h ⊢
      by_cases c5 : t = 17
      · have e : tbE t = 3 := by
          unfold tbE
          rw [if_neg c2, if_pos c5]
        rw [e] at b m1' ⊢
        rw [show (3 : Int).toNat = 3 from rfl, show (2 : Int) ^ 3 = 8 from rfl] at b m1'
        rw [if_pos c5] at h
        rw [if_neg (by omega)]
        by_cases c4 : p1 + 3 ≤ E
        · rw [if_pos c4, b, show m % 8 = m by omega] at h
          injection h with h
          exact h.symm
        · rw [if_neg c4] at h
          cases h
      · have e : tbE t = 7 := by
          unfold tbE
          rw [if_neg c2, if_neg c5, if_pos (by omega)]
        rw [e] at b m1' ⊢
        rw [show (7 : Int).toNat = 7 from rfl, show (2 : Int) ^ 7 = 128 from rfl] at b m1'
        rw [if_neg c5] at h
        rw [if_pos (by omega)]
        by_cases c4 : p1 + 7 ≤ E
        · rw [if_pos c4, b, show m % 128 = m by omega] at h
          injection h with h
          exact h.symm
        · rw [if_neg c4] at h
          cases h
/-- one teller -/
theorem dec_t1 {t m p i : Int} {G : Nat} {r : Int → Int} {X : List Int} {R : Int × (Int → Int)} (hk : sumL lt 19 15 ≤ 32768) (ok : ttOK (t, m)) (hl : 0 < lt t ∧ lt t ≤ 15) (hb : bAt g p (cbL lt 19 t ++ (nbL m (tbE t).toNat ++ X))) (hi : i < al) (h : tlG g E lt al G p i r = some R) : ∃ G2 : Nat, tlG g E lt al G2 (p + lt t + tbE t) (i + tqN t m) (fillU r i (tqN t m) (tqV t r i)) = some R ∧ bAt g (p + lt t + tbE t) X := by
  have tr : 0 ≤ t ∧ t < 19 := by
    have := ok.1
    have a1 : 0 ≤ t := this.1
    have a2 : t ≤ 18 := this.2
    omega
  have te := tbE_r t
  have b1 := bAt_r hb
  rw [cbL_len lt 19 (by omega)] at b1
  have b2 := bAt_r b1
  rw [nbL_len, show (((tbE t).toNat : Nat) : Int) = tbE t by omega] at b2
  cases G with
  | zero => cases h
  | succ G =>
    cases hq : sy g E lt 19 p with
    | none =>
      rw [tlG_n hq (by omega)] at h
      cases h
    | some q =>
      have e := dec_sy (n := 19) tr hl hk (bAt_l hb) hq
      rw [e] at hq
      rw [tlG_s hq (by omega)] at h
      cases hp : tlP g E t (p + lt t) i r with
      | none =>
        rw [hp] at h
        cases h
      | some q2 =>
        have e2 := dec_tp ok (bAt_l b1) hp
        rw [hp, e2] at h
        have h2 : (if i + tqN t m ≤ al then tlG g E lt al G (p + lt t + tbE t) (i + tqN t m) (fillU r i (tqN t m) (tqV t r i)) else none) = some R := h
        by_cases c : i + tqN t m ≤ al
        · rw [if_pos c] at h2
          exact ⟨G, h2, b2⟩
        · rw [if_neg c] at h2
          cases h2
theorem tesL_app (A B : List (Int × Int)) : tesL lt (A ++ B) = tesL lt A ++ tesL lt B := by
  induction A with
  | nil => rfl
  | cons p A ih =>
    show cbL lt 19 p.1 ++ (nbL p.2 (tbE p.1).toNat ++ tesL lt (A ++ B)) = cbL lt 19 p.1 ++ (nbL p.2 (tbE p.1).toNat ++ tesL lt A) ++ tesL lt B
    rw [ih, List.append_assoc, List.append_assoc]
theorem tesL_1 {t m : Int} (h : 0 ≤ lt t) (A : List (Int × Int)) : ((tesL lt ((t, m) :: A)).length : Int) = lt t + tbE t + (tesL lt A).length := by
  have te := tbE_r t
  have c := cbL_len lt 19 h
  show ((cbL lt 19 t ++ (nbL m (tbE t).toNat ++ tesL lt A)).length : Int) = _
  rw [List.length_append, List.length_append, nbL_len]
  omega
/-- what a row of tellers does: from i on there are left many v -/
def dtQ (g : Int → Int) (E : Int) (lt : Int → Int) (al : Int) (S X : List (Int × Int)) (p i left v : Int) (r : Int → Int) (R : Int × (Int → Int)) : Prop := ∃ (G2 : Nat) (r2 : Int → Int), tlG g E lt al G2 (p + (tesL lt S).length) (i + left) r2 = some R ∧ (∀ j : Int, j < i → r2 j = r j) ∧ (∀ j : Int, i ≤ j → j < i + left → r2 j = v) ∧ bAt g (p + (tesL lt S).length) (tesL lt X)
theorem dec_tr {v : Int} (hk : sumL lt 19 15 ≤ 32768) (hv : 0 ≤ v ∧ v ≤ 15) {X : List (Int × Int)} {R : Int × (Int → Int)} : ∀ (gf G : Nat) (left p i : Int) (r : Int → Int), left ≤ gf → 0 ≤ left → i + left ≤ al → (∀ q ∈ trG v gf left, 0 < lt q.1 ∧ lt q.1 ≤ 15) → (v ≠ 0 → r (i - 1) = v) → bAt g p (tesL lt (trG v gf left ++ X)) → tlG g E lt al G p i r = some R → dtQ g E lt al (trG v gf left) X p i left v r R := by
  intro gf
  induction gf with
  | zero =>
    intro G left p i r h1 h2 h3 hu hr hb h
    have e : left = 0 := by omega
    rw [e]
    refine ⟨G, r, ?_, fun _ _ => rfl, fun j j1 j2 => by omega, ?_⟩
    · rw [Int.add_zero, show (tesL lt (trG v 0 0)).length = 0 from rfl, show p + ((0 : Nat) : Int) = p by omega]
      exact h
    · rw [show (tesL lt (trG v 0 0)).length = 0 from rfl, show p + ((0 : Nat) : Int) = p by omega]
      exact hb
  | succ gf ih =>
    intro G left p i r h1 h2 h3 hu hr hb h
    by_cases c0 : left ≤ 0
    · have e : left = 0 := by omega
      have et : trG v (gf + 1) left = [] := if_pos c0
      rw [et] at hb ⊢
      rw [e]
      refine ⟨G, r, ?_, fun _ _ => rfl, fun j j1 j2 => by omega, ?_⟩
      · rw [Int.add_zero, show (tesL lt []).length = 0 from rfl, show p + ((0 : Nat) : Int) = p by omega]
        exact h
      · rw [show (tesL lt []).length = 0 from rfl, show p + ((0 : Nat) : Int) = p by omega]
        exact hb
    · have KEY : ∀ t m n : Int, trG v (gf + 1) left = (t, m) :: trG v gf (left - n) → tqN t m = n → 1 ≤ n → n ≤ left → tqV t r i = v → ttOK (t, m) → dtQ g E lt al (trG v (gf + 1) left) X p i left v r R := by
        intro t m n et e1 n1 n2 e2 ok
        rw [et] at hb hu ⊢
        have ul : 0 < lt t ∧ lt t ≤ 15 := hu _ (List.mem_cons_self ..)
        have hb1 : bAt g p (cbL lt 19 t ++ (nbL m (tbE t).toNat ++ tesL lt (trG v gf (left - n) ++ X))) := hb
        obtain ⟨G2, h5, b5⟩ := dec_t1 hk ok ul hb1 (by omega) h
        rw [e1, e2] at h5
        obtain ⟨G3, r3, q1, q2, q3, q4⟩ := ih G2 (left - n) (p + lt t + tbE t) (i + n) (fillU r i n v) (by omega) (by omega) (by omega) (fun q hq => hu q (List.mem_cons_of_mem _ hq)) (fun _ => by
          show (if i ≤ i + n - 1 ∧ i + n - 1 < i + n then v else r (i + n - 1)) = v
          rw [if_pos (by omega)]) b5 h5
        have tl := tesL_1 (lt := lt) (t := t) (m := m) (by omega) (trG v gf (left - n))
        have ep : p + ((tesL lt ((t, m) :: trG v gf (left - n))).length : Int) = p + lt t + tbE t + ((tesL lt (trG v gf (left - n))).length : Int) := by omega
        refine ⟨G3, r3, ?_, fun j hj => ?_, fun j j1 j2 => ?_, ?_⟩
        · rw [ep, show i + left = i + n + (left - n) by omega]
          exact q1
        · rw [q2 j (by omega)]
          show (if i ≤ j ∧ j < i + n then v else r j) = r j
          rw [if_neg (by omega)]
        · by_cases cj : j < i + n
          · rw [q2 j cj]
            show (if i ≤ j ∧ j < i + n then v else r j) = v
            rw [if_pos (by omega)]
          · exact q3 j (by omega) (by omega)
        · rw [ep]
          exact q4
      have ES : trG v (gf + 1) left = if v = 0 ∧ 11 ≤ left then (18, min 138 left - 11) :: trG v gf (left - min 138 left) else if v = 0 ∧ 3 ≤ left then (17, left - 3) :: trG v gf 0 else if 3 ≤ left then (16, min 6 left - 3) :: trG v gf (left - min 6 left) else (v, 0) :: trG v gf (left - 1) := if_neg c0
      by_cases c1 : v = 0 ∧ 11 ≤ left
      · rw [if_pos c1] at ES
        refine KEY 18 (min 138 left - 11) (min 138 left) ES ?_ (by omega) (by omega) ?_ ⟨show (0 : Int) ≤ 18 ∧ (18 : Int) ≤ 18 by decide, ?_, ?_⟩
        · unfold tqN
          rw [if_neg (by omega), if_pos rfl]
          omega
        · unfold tqV
          rw [if_neg (by omega), if_neg (by omega)]
          omega
        · show 0 ≤ min 138 left - 11
          omega
        · show min 138 left - 11 < 2 ^ 7
          rw [show (2 : Int) ^ 7 = 128 from rfl]
          omega
      · rw [if_neg c1] at ES
        by_cases c2 : v = 0 ∧ 3 ≤ left
        · rw [if_pos c2] at ES
          refine KEY 17 (left - 3) left (by rw [Int.sub_self]; exact ES) ?_ (by omega) (by omega) ?_ ⟨show (0 : Int) ≤ 17 ∧ (17 : Int) ≤ 18 by decide, ?_, ?_⟩
          · unfold tqN
            rw [if_neg (by omega), if_neg (by omega)]
            omega
          · unfold tqV
            rw [if_neg (by omega), if_neg (by omega)]
            omega
          · show 0 ≤ left - 3
            omega
          · show left - 3 < 2 ^ 3
            rw [show (2 : Int) ^ 3 = 8 from rfl]
            omega
        · rw [if_neg c2] at ES
          by_cases c3 : 3 ≤ left
          · rw [if_pos c3] at ES
            refine KEY 16 (min 6 left - 3) (min 6 left) ES ?_ (by omega) (by omega) ?_ ⟨show (0 : Int) ≤ 16 ∧ (16 : Int) ≤ 18 by decide, ?_, ?_⟩
            · unfold tqN
              rw [if_neg (by omega), if_neg (by omega)]
              omega
            · unfold tqV
              rw [if_neg (by omega), if_pos rfl]
              exact hr (by omega)
            · show 0 ≤ min 6 left - 3
              omega
            · show min 6 left - 3 < 2 ^ 2
              rw [show (2 : Int) ^ 2 = 4 from rfl]
              omega
          · rw [if_neg c3] at ES
            refine KEY v 0 1 ES ?_ (by omega) (by omega) ?_ ⟨⟨hv.1, ?_⟩, ?_, ?_⟩
            · unfold tqN
              rw [if_pos (by omega)]
            · unfold tqV
              rw [if_pos (by omega)]
            · show v ≤ 18
              omega
            · show (0 : Int) ≤ 0
              omega
            · show (0 : Int) < 2 ^ (tbE v).toNat
              exact two_pos _
theorem rn_eq {r : Int → Int} {v : Int} : ∀ (gf : Nat) (j t : Int), j ≤ t → t < j + rnG r al v gf j → r t = v
  | 0, j, t, h1, h2 => by
    have h3 : t < j + 0 := h2
    omega
  | gf + 1, j, t, h1, h2 => by
    by_cases c : j < al ∧ r j = v
    · have e : rnG r al v (gf + 1) j = 1 + rnG r al v gf (j + 1) := if_pos c
      rw [e] at h2
      by_cases ct : t = j
      · rw [ct]
        exact c.2
      · exact rn_eq gf (j + 1) t (by omega) (by omega)
    · have e : rnG r al v (gf + 1) j = 0 := if_neg c
      rw [e] at h2
      omega
theorem dec_te {row : Int → Int} {R : Int × (Int → Int)} (hk : sumL lt 19 15 ≤ 32768) (hrow : ∀ i : Int, 0 ≤ i → i < al → 0 ≤ row i ∧ row i ≤ 15) : ∀ (gf G : Nat) (p i : Int) (r : Int → Int), al - i ≤ gf → 0 ≤ i → i ≤ al → (∀ q ∈ teG row al gf i, 0 < lt q.1 ∧ lt q.1 ≤ 15) → (∀ j : Int, 0 ≤ j → j < i → r j = row j) → bAt g p (tesL lt (teG row al gf i)) → tlG g E lt al G p i r = some R → R.1 = p + (tesL lt (teG row al gf i)).length ∧ ∀ j : Int, 0 ≤ j → j < al → R.2 j = row j := by
  have END : ∀ (G : Nat) (p i : Int) (r : Int → Int), al ≤ i → i ≤ al → (∀ j : Int, 0 ≤ j → j < i → r j = row j) → tlG g E lt al G p i r = some R → R.1 = p + (tesL lt []).length ∧ ∀ j : Int, 0 ≤ j → j < al → R.2 j = row j := by
    intro G p i r h1 h2 hr h
    cases G with
    | zero => cases h
    | succ G =>
      have e : tlG g E lt al (G + 1) p i r = some (p, r) := if_pos h1
      rw [e] at h
      injection h with h
      rw [← h]
      refine ⟨?_, fun j j0 j1 => hr j j0 (by omega)⟩
      show p = p + ((0 : Nat) : Int)
      omega
  intro gf
  induction gf with
  | zero =>
    intro G p i r h1 h2 h3 hu hr hb h
    exact END G p i r (by omega) h3 hr h
  | succ gf ih =>
    intro G p i r h1 h2 h3 hu hr hb h
    by_cases c : i < al
    · have et : teG row al (gf + 1) i = trN (row i) (rnS row al i) ++ teG row al gf (i + rnS row al i) := if_pos c
      have rb := rnS_b (r := row) c
      have vb := hrow i h2 c
      rw [et] at hb hu ⊢
      have hrn : ∀ j : Int, i ≤ j → j < i + rnS row al i → row j = row i := fun j j1 j2 => rn_eq _ i j j1 j2
      have MID : ∃ (G2 : Nat) (r2 : Int → Int), tlG g E lt al G2 (p + (tesL lt (trN (row i) (rnS row al i))).length) (i + rnS row al i) r2 = some R ∧ (∀ j : Int, j < i → r2 j = r j) ∧ (∀ j : Int, i ≤ j → j < i + rnS row al i → r2 j = row i) ∧ bAt g (p + (tesL lt (trN (row i) (rnS row al i))).length) (tesL lt (teG row al gf (i + rnS row al i))) := by
        by_cases cv : 0 < row i
        · have en : trN (row i) (rnS row al i) = (row i, 0) :: trG (row i) (rnS row al i).toNat (rnS row al i - 1) := if_pos cv
          rw [en] at hb hu ⊢
          have ul : 0 < lt (row i) ∧ lt (row i) ≤ 15 := hu (row i, 0) (List.mem_cons_self ..)
          have hb1 : bAt g p (cbL lt 19 (row i) ++ (nbL 0 (tbE (row i)).toNat ++ tesL lt (trG (row i) (rnS row al i).toNat (rnS row al i - 1) ++ teG row al gf (i + rnS row al i)))) := hb
          obtain ⟨G2, h5, b5⟩ := dec_t1 (m := 0) hk ⟨⟨vb.1, show row i ≤ 18 by omega⟩, show (0 : Int) ≤ 0 by omega, show (0 : Int) < 2 ^ (tbE (row i)).toNat from two_pos _⟩ ul hb1 c h
          have q1 : tqN (row i) 0 = 1 := if_pos (by omega)
          have q2 : tqV (row i) r i = row i := if_pos (by omega)
          rw [q1, q2] at h5
          obtain ⟨G3, r3, w1, w2, w3, w4⟩ := dec_tr hk vb (rnS row al i).toNat G2 (rnS row al i - 1) (p + lt (row i) + tbE (row i)) (i + 1) (fillU r i 1 (row i)) (by omega) (by omega) (by omega) (fun q hq => hu q (List.mem_append.2 (Or.inl (List.mem_cons_of_mem _ hq)))) (fun _ => by
            show (if i ≤ i + 1 - 1 ∧ i + 1 - 1 < i + 1 then row i else r (i + 1 - 1)) = row i
            rw [if_pos (by omega)]) b5 h5
          have tl := tesL_1 (lt := lt) (t := row i) (m := 0) (by omega) (trG (row i) (rnS row al i).toNat (rnS row al i - 1))
          have ep : p + ((tesL lt ((row i, 0) :: trG (row i) (rnS row al i).toNat (rnS row al i - 1))).length : Int) = p + lt (row i) + tbE (row i) + ((tesL lt (trG (row i) (rnS row al i).toNat (rnS row al i - 1))).length : Int) := by omega
          refine ⟨G3, r3, ?_, fun j hj => ?_, fun j j1 j2 => ?_, ?_⟩
          · rw [ep, show i + rnS row al i = i + 1 + (rnS row al i - 1) by omega]
            exact w1
          · rw [w2 j (by omega)]
            show (if i ≤ j ∧ j < i + 1 then row i else r j) = r j
            rw [if_neg (by omega)]
          · by_cases cj : j < i + 1
            · rw [w2 j cj]
              show (if i ≤ j ∧ j < i + 1 then row i else r j) = row i
              rw [if_pos (by omega)]
            · exact w3 j (by omega) (by omega)
          · rw [ep]
            exact w4
        · have en : trN (row i) (rnS row al i) = trG (row i) (rnS row al i).toNat (rnS row al i) := if_neg cv
          rw [en] at hb hu ⊢
          exact dec_tr hk vb (rnS row al i).toNat G (rnS row al i) p i r (by omega) (by omega) (by omega) (fun q hq => hu q (List.mem_append.2 (Or.inl hq))) (fun w => by omega) hb h
      obtain ⟨G2, r2, w1, w2, w3, w4⟩ := MID
      have f := ih G2 _ (i + rnS row al i) r2 (by omega) (by omega) (by omega) (fun q hq => hu q (List.mem_append.2 (Or.inr hq))) (fun j j0 j1 => by
        by_cases cj : j < i
        · rw [w2 j cj]
          exact hr j j0 cj
        · rw [w3 j (by omega) j1, hrn j (by omega) j1]) w4 w1
      refine ⟨?_, f.2⟩
      rw [f.1, tesL_app, List.length_append]
      omega
    · have et : teG row al (gf + 1) i = [] := if_neg c
      rw [et] at hb ⊢
      exact END G p i r (by omega) h3 hr h
end DECL
