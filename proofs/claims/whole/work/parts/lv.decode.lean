/-! PACKING: what was packed is read back: bits, codes, tokens -/
/-- from p on lie these bits -/
def bAt (g : Int → Int) (p : Int) (B : List Int) : Prop := ∀ (i : Nat) (x : Int), B[i]? = some x → bt g (p + i) = x
theorem bAt_l {g : Int → Int} {p : Int} {A B : List Int} (h : bAt g p (A ++ B)) : bAt g p A := fun i x hx => h i x (by
  obtain ⟨hi, _⟩ := List.getElem?_eq_some_iff.1 hx
  rw [List.getElem?_append_left hi]
  exact hx)
theorem bAt_r {g : Int → Int} {p : Int} {A B : List Int} (h : bAt g p (A ++ B)) : bAt g (p + A.length) B := fun i x hx => by
  have := h (A.length + i) x (by
    rw [List.getElem?_append_right (by omega), show A.length + i - A.length = i by omega]
    exact hx)
  rw [show p + (A.length : Int) + (i : Int) = p + ((A.length + i : Nat) : Int) by omega]
  exact this
theorem bAt_c {g : Int → Int} {p x : Int} {r : List Int} (h : bAt g p (x :: r)) : bt g p = x ∧ bAt g (p + 1) r := by
  refine ⟨?_, fun i y hy => ?_⟩
  · have := h 0 x rfl
    rw [show p + ((0 : Nat) : Int) = p by omega] at this
    exact this
  · have := h (i + 1) y hy
    rw [show p + ((i + 1 : Nat) : Int) = p + 1 + (i : Int) by omega] at this
    exact this
theorem bAt_nb {g : Int → Int} {p v : Int} : ∀ n : Nat, bAt g p (nbL v n) → bv g p n = v % 2 ^ n
  | 0, _ => by
    show (0 : Int) = v % 2 ^ 0
    rw [show (2 : Int) ^ 0 = 1 from rfl]
    omega
  | n + 1, h => by
    have h1 := bAt_nb n (bAt_l (B := [v / 2 ^ n % 2]) h)
    have h2 := (bAt_c (bAt_r (A := nbL v n) (B := [v / 2 ^ n % 2]) h)).1
    rw [nbL_len] at h2
    have q := blV_nb v (n + 1)
    have q2 : blV (nbL v (n + 1)) = blV (nbL v n) + 2 ^ n * (v / 2 ^ n % 2 + 2 * 0) := by
      show blV (nbL v n ++ [v / 2 ^ n % 2]) = _
      rw [blV_app, nbL_len]
      rfl
    rw [q2, blV_nb, Int.mul_zero, Int.add_zero] at q
    show bv g p n + bt g (p + n) * 2 ^ n = _
    rw [h1, h2, ← q, Int.mul_comm (2 ^ n)]
theorem fst_up (ls : Int → Int) (n : Nat) {l : Nat} (hl : 1 ≤ l) : ∀ k : Nat, 2 ^ (k + 1) * (fstL ls n l + cnt ls n l) ≤ fstL ls n (l + k + 1)
  | 0 => by
    show 2 ^ (0 + 1) * (fstL ls n l + cnt ls n l) ≤ 2 * (fstL ls n l + (if l = 0 then 0 else cnt ls n l))
    rw [if_neg (by omega), show (2 : Int) ^ (0 + 1) = 2 from rfl]
    omega
  | k + 1 => by
    have ih := fst_up ls n hl k
    have c := (cnt_nn ls (l + k + 1 : Nat) n).1
    show 2 ^ (k + 1 + 1) * (fstL ls n l + cnt ls n l) ≤ 2 * (fstL ls n (l + k + 1) + (if l + k + 1 = 0 then 0 else cnt ls n (l + k + 1 : Nat)))
    rw [if_neg (by omega), Int.pow_succ, Int.mul_comm (2 ^ (k + 1)) 2, Int.mul_assoc]
    omega
theorem syG_s (f : Int → Int) (E : Int) (ls : Int → Int) (n g l : Nat) (v fi p : Int) : syG f E ls n (g + 1) l v fi p = if p < E then (if 2 * v + bt f p - fi < cnt ls n (l + 1 : Nat) then some (nth ls (l + 1 : Nat) (2 * v + bt f p - fi) n, p + 1) else syG f E ls n g (l + 1) (2 * v + bt f p) (2 * (fi + cnt ls n (l + 1 : Nat))) (p + 1)) else none := rfl
theorem dec_g {g : Int → Int} {E : Int} {ls : Int → Int} {n s : Nat} (hs : s < n) (h1 : 0 < ls s ∧ ls s ≤ 15) : ∀ (k gg l0 : Nat) (p : Int) (r : Int × Int), l0 + k + 1 = (ls s).toNat → bAt g p (hbL (cdC ls n s) (k + 1)) → syG g E ls n gg l0 (cdC ls n s / 2 ^ (k + 1)) (fstL ls n (l0 + 1)) p = some r → r = ((s : Int), p + k + 1) := by
  intro k
  induction k with
  | zero =>
    intro gg l0 p r hl hb h
    have b : bt g p = cdC ls n s / 2 ^ 0 % 2 := (bAt_c (r := hbL (cdC ls n s) 0) hb).1
    rw [show (2 : Int) ^ 0 = 1 from rfl, Int.ediv_one] at b
    cases gg with
    | zero => cases h
    | succ gg =>
      rw [syG_s, show (2 : Int) ^ (0 + 1) = 2 from rfl] at h
      rw [show 2 * (cdC ls n s / 2) + bt g p = cdC ls n s by omega] at h
      have el : ls s = ((l0 + 1 : Nat) : Int) := by omega
      have ec : cdC ls n s - fstL ls n (l0 + 1) = cnt ls s ((l0 + 1 : Nat) : Int) := by
        unfold cdC
        rw [← hl, ← el]
        show fstL ls n (l0 + 1) + cnt ls s (ls s) - fstL ls n (l0 + 1) = _
        omega
      rw [ec] at h
      by_cases hE : p < E
      · rw [if_pos hE, if_pos (cntLt ls _ n s hs el), nth_at ls _ n s hs el] at h
        injection h with h
        rw [← h]
        rw [show p + ((0 : Nat) : Int) + 1 = p + 1 by omega]
      · rw [if_neg hE] at h
        cases h
  | succ k ih =>
    intro gg l0 p r hl hb h
    have b0 := bAt_c (x := cdC ls n s / 2 ^ (k + 1) % 2) (r := hbL (cdC ls n s) (k + 1)) hb
    cases gg with
    | zero => cases h
    | succ gg =>
      have e2 : cdC ls n s / 2 ^ (k + 1 + 1) = cdC ls n s / 2 ^ (k + 1) / 2 := by
        rw [Int.pow_succ, Int.ediv_ediv_of_nonneg (Int.le_of_lt (two_pos (k + 1)))]
      rw [syG_s, e2] at h
      rw [show 2 * (cdC ls n s / 2 ^ (k + 1) / 2) + bt g p = cdC ls n s / 2 ^ (k + 1) by
        rw [b0.1]
        omega] at h
      have u := fst_up ls n (l := l0 + 1) (by omega) k
      have cc : fstL ls n (l0 + 1 + k + 1) ≤ cdC ls n s := by
        unfold cdC
        rw [show l0 + 1 + k + 1 = (ls s).toNat by omega]
        have := (cnt_nn ls (ls s) s).1
        omega
      have d : fstL ls n (l0 + 1) + cnt ls n (l0 + 1 : Nat) ≤ cdC ls n s / 2 ^ (k + 1) := Int.le_ediv_of_mul_le (two_pos (k + 1)) (by
        rw [Int.mul_comm]
        omega)
      by_cases hE : p < E
      · rw [if_pos hE, if_neg (by omega)] at h
        have := ih gg (l0 + 1) (p + 1) r (by omega) b0.2 (by
          have e3 : fstL ls n (l0 + 1 + 1) = 2 * (fstL ls n (l0 + 1) + cnt ls n (l0 + 1 : Nat)) := by
            show 2 * (fstL ls n (l0 + 1) + (if l0 + 1 = 0 then 0 else cnt ls n (l0 + 1 : Nat))) = _
            rw [if_neg (by omega)]
          rw [e3]
          exact h)
        rw [this]
        rw [show p + 1 + (k : Int) + 1 = p + ((k + 1 : Nat) : Int) + 1 by omega]
      · rw [if_neg hE] at h
        cases h
theorem dec_sy {g : Int → Int} {E : Int} {ls : Int → Int} {n : Nat} {s p : Int} {r : Int × Int} (hs : 0 ≤ s ∧ s < n) (h1 : 0 < ls s ∧ ls s ≤ 15) (hk : sumL ls n 15 ≤ 32768) (hb : bAt g p (cbL ls n s)) (h : sy g E ls n p = some r) : r = (s, p + ls s) := by
  obtain ⟨t, rfl⟩ : ∃ t : Nat, s = t := ⟨s.toNat, by omega⟩
  have c := cdC_lt hk (s := t) (by omega) h1.1 h1.2
  obtain ⟨k, hk2⟩ : ∃ k : Nat, (ls t).toNat = k + 1 := ⟨(ls t).toNat - 1, by omega⟩
  unfold cbL at hb
  rw [Int.toNat_natCast, hk2] at hb
  have f1 : fstL ls n (0 + 1) = 0 := by
    show 2 * (0 + (if (0 : Nat) = 0 then 0 else cnt ls n (0 : Nat))) = (0 : Int)
    rw [if_pos rfl]
    rfl
  have := dec_g (g := g) (E := E) (by omega) h1 k 15 0 p r (by omega) hb (by
    rw [Int.ediv_eq_zero_of_lt c.1 (by rw [← hk2]; exact c.2), f1]
    exact h)
  rw [this, show p + (k : Int) + 1 = p + ls t by omega]
/-- bytes copied from before -/
theorem cpB_sl {f : Int → Int} {a : Int} {d : Nat} (hd : 1 ≤ d) : ∀ (n q : Nat), d ≤ q → (∀ i : Nat, i < n → f (a + q - d + i) % 256 = f (a + q + i) % 256) → cpB (sl f a q) d n = sl f a (q + n)
  | 0, q, _, _ => rfl
  | n + 1, q, hq, h => by
    show cpB (sl f a q ++ [((sl f a q)[(sl f a q).length - d]?).getD 0]) d n = _
    rw [sl_len, sl_get q a (q - d) (by omega)]
    have h0 := h 0 (by omega)
    have e : sl f a q ++ [(some (f (a + ((q - d : Nat) : Int)) % 256)).getD 0] = sl f a (q + 1) := by
      rw [sl_back]
      show sl f a q ++ [f (a + ((q - d : Nat) : Int)) % 256] = _
      rw [show a + ((q - d : Nat) : Int) = a + q - d + ((0 : Nat) : Int) by omega, h0, show a + (q : Int) + ((0 : Nat) : Int) = a + q by omega]
    rw [e, cpB_sl hd n (q + 1) (by omega) (fun i hi => by
      have := h (i + 1) (by omega)
      rw [show a + ((q + 1 : Nat) : Int) - d + (i : Int) = a + q - d + ((i + 1 : Nat) : Int) by omega, show a + ((q + 1 : Nat) : Int) + (i : Int) = a + q + ((i + 1 : Nat) : Int) by omega]
      exact this), show q + 1 + n = q + (n + 1) by omega]
section DECT
variable {g : Int → Int} {E : Int} {la lb : Int → Int} {na nb : Nat} {W mo : Int}
theorem smG_s {G : Nat} {p : Int} {o : List Int} {s p1 : Int} (hs : sy g E la na p = some (s, p1)) : smG g E la na lb nb W mo (G + 1) p o = if s = 256 then some (p1, o) else if s < 256 then (if (o.length : Int) < mo then smG g E la na lb nb W mo G p1 (o ++ [s]) else none) else match smL g E lb nb W mo s p1 o with
      | none => none
      | some (p4, o4) => smG g E la na lb nb W mo G p4 o4 := by
  show (match sy g E la na p with
    | none => none
    | some (s, p1) => if s = 256 then some (p1, o) else if s < 256 then (if (o.length : Int) < mo then smG g E la na lb nb W mo G p1 (o ++ [s]) else none) else match smL g E lb nb W mo s p1 o with
      | none => none
      | some (p4, o4) => smG g E la na lb nb W mo G p4 o4) = _
  rw [hs]
theorem smG_n {G : Nat} {p : Int} {o : List Int} (hs : sy g E la na p = none) : smG g E la na lb nb W mo (G + 1) p o = none := by
  show (match sy g E la na p with
    | none => none
    | some (s, p1) => _) = _
  rw [hs]
/-- the first symbol of a row that can be read -/
theorem dec_1 {G : Nat} {p s : Int} {o : List Int} {r : Int × List Int} (ka : sumL la na 15 ≤ 32768) (hs : 0 ≤ s ∧ s < na) (h1 : 0 < la s ∧ la s ≤ 15) (hb : bAt g p (cbL la na s)) (h : smG g E la na lb nb W mo G p o = some r) : ∃ G2 : Nat, (if s = 256 then some (p + la s, o) else if s < 256 then (if (o.length : Int) < mo then smG g E la na lb nb W mo G2 (p + la s) (o ++ [s]) else none) else match smL g E lb nb W mo s (p + la s) o with
      | none => none
      | some (p4, o4) => smG g E la na lb nb W mo G2 p4 o4) = some r := by
  cases G with
  | zero => cases h
  | succ G =>
    cases hq : sy g E la na p with
    | none =>
      rw [smG_n hq] at h
      cases h
    | some q =>
      have e := dec_sy hs h1 ka hb hq
      rw [e] at hq
      rw [smG_s hq] at h
      exact ⟨G, h⟩
theorem dec_sm {n d p1 : Int} {o : List Int} {r : Int × List Int} (kb : sumL lb nb 15 ≤ 32768) (hn : 3 ≤ n ∧ n ≤ 258) (hd : 1 ≤ d ∧ d ≤ 32768) (hnb : 30 ≤ nb) (h1 : 0 < lb (dsY d) ∧ lb (dsY d) ≤ 15) (hb : bAt g p1 (nbL (n - lnB (lnY n)) (lnM (lnY n)) ++ (cbL lb nb (dsY d) ++ nbL (d - dsB (dsY d)) (dsM (dsY d))))) (h : smL g E lb nb W mo (lnY n) p1 o = some r) : r = (p1 + lnM (lnY n) + lb (dsY d) + dsM (dsY d), cpB o d.toNat n.toNat) := by
  have l1 := lnY_r hn
  have d1 := dsY_r hd
  have b1 := bAt_nb _ (bAt_l hb)
  have b2 := bAt_r hb
  rw [nbL_len] at b2
  have b3 := bAt_l b2
  have b4 := bAt_nb _ (bAt_r b2)
  have cl := cbL_len lb nb (s := dsY d) (by omega)
  rw [cl] at b4
  rw [(eLn_M hn).2, Int.emod_emod_of_dvd _ (Int.dvd_refl _)] at b1
  rw [(eDs_M hd).2, Int.emod_emod_of_dvd _ (Int.dvd_refl _)] at b4
  have e1 := (eLn_M hn).2
  have e2 := (eDs_M hd).2
  unfold smL at h
  rw [if_neg (by omega)] at h
  by_cases c1 : E < p1 + lnM (lnY n)
  · rw [if_pos c1] at h
    cases h
  · rw [if_neg c1] at h
    cases hq : sy g E lb nb (p1 + lnM (lnY n)) with
    | none =>
      rw [hq] at h
      cases h
    | some q =>
      have e := dec_sy (by omega) h1 kb b3 hq
      rw [hq, e] at h
      have h2 : (if 29 < dsY d then none else if E < p1 + lnM (lnY n) + lb (dsY d) + dsM (dsY d) then none else cS W mo (lnB (lnY n) + bv g p1 (lnM (lnY n))) (dsB (dsY d) + bv g (p1 + lnM (lnY n) + lb (dsY d)) (dsM (dsY d))) (some (p1 + lnM (lnY n) + lb (dsY d) + dsM (dsY d), o))) = some r := h
      rw [if_neg (by omega), b1, b4, ← e1, ← e2] at h2
      by_cases c2 : E < p1 + lnM (lnY n) + lb (dsY d) + dsM (dsY d)
      · rw [if_pos c2] at h2
        cases h2
      · rw [if_neg c2, show lnB (lnY n) + (n - lnB (lnY n)) = n by omega, show dsB (dsY d) + (d - dsB (dsY d)) = d by omega] at h2
        have h3 : (if d ≤ o.length ∧ d ≤ W ∧ o.length + n ≤ mo then some (p1 + lnM (lnY n) + lb (dsY d) + dsM (dsY d), cpB o d.toNat n.toNat) else none) = some r := h2
        by_cases c3 : d ≤ o.length ∧ d ≤ W ∧ o.length + n ≤ mo
        · rw [if_pos c3] at h3
          injection h3 with h3
          exact h3.symm
        · rw [if_neg c3] at h3
          cases h3
theorem dec_end {G : Nat} {p : Int} {o : List Int} {r : Int × List Int} (ka : sumL la na 15 ≤ 32768) (hn : 286 ≤ na) (u : 0 < la 256 ∧ la 256 ≤ 15) (hb : bAt g p (cbL la na 256)) (h : smG g E la na lb nb W mo G p o = some r) : r = (p + (cbL la na 256).length, o) := by
  obtain ⟨G2, h2⟩ := dec_1 ka (s := 256) (by omega) u hb h
  rw [if_pos rfl] at h2
  injection h2 with h2
  rw [← h2, cbL_len la na (by omega)]
theorem dec_tk {f : Int → Int} {a : Int} {e : Nat} (ka : sumL la na 15 ≤ 32768) (kb : sumL lb nb 15 ≤ 32768) (hn : 286 ≤ na) (hnb : 30 ≤ nb) (u : 0 < la 256 ∧ la 256 ≤ 15) : ∀ (gg G q : Nat) (p : Int) (r : Int × List Int), e - q ≤ gg → q ≤ e → (∀ t ∈ tkG f a e gg q, (0 < la (tkY t) ∧ la (tkY t) ≤ 15) ∧ (t.1 ≠ 0 → 0 < lb (dsY t.2) ∧ lb (dsY t.2) ≤ 15)) → bAt g p (tksL la na lb nb (tkG f a e gg q)) → smG g E la na lb nb W mo G p (sl f a q) = some r → r = (p + (tksL la na lb nb (tkG f a e gg q)).length, sl f a e) := by
  intro gg
  induction gg with
  | zero =>
    intro G q p r h1 h2 _ hb h
    rw [show e = q by omega]
    exact dec_end ka hn u hb h
  | succ gg ih =>
    intro G q p r h1 h2 hu hb h
    by_cases c : (e : Int) ≤ q
    · have et : tkG f a e (gg + 1) q = [] := if_pos c
      rw [et] at hb ⊢
      rw [show e = q by omega]
      exact dec_end ka hn u hb h
    · by_cases c0 : (bmS f a e q).1 = 0
      · have et : tkG f a e (gg + 1) q = (0, f (a + q) % 256) :: tkG f a e gg ((q + 1 : Nat) : Int) := by
          show (if (e : Int) ≤ q then [] else if (bmS f a e q).1 = 0 then (0, f (a + q) % 256) :: tkG f a e gg ((q : Int) + 1) else bmS f a e q :: tkG f a e gg (q + (bmS f a e q).1)) = _
          rw [if_neg c, if_pos c0]
          rfl
        rw [et] at hb hu ⊢
        have hb1 : bAt g p (cbL la na (f (a + q) % 256) ++ tksL la na lb nb (tkG f a e gg ((q + 1 : Nat) : Int))) := hb
        have u1 := (hu _ (List.mem_cons_self ..)).1
        have u2 : 0 < la (f (a + q) % 256) ∧ la (f (a + q) % 256) ≤ 15 := u1
        obtain ⟨x, hx⟩ : ∃ x, x = f (a + q) % 256 := ⟨_, rfl⟩
        have xr : 0 ≤ x ∧ x < 256 := by omega
        obtain ⟨G2, h3⟩ := dec_1 ka (s := f (a + q) % 256) (by omega) u2 (bAt_l hb1) h
        rw [if_neg (by omega), if_pos (by omega)] at h3
        by_cases c2 : ((sl f a q).length : Int) < mo
        · rw [if_pos c2, ← sl_back] at h3
          have b2 := bAt_r hb1
          have cl := cbL_len la na (s := f (a + q) % 256) (by omega)
          rw [cl] at b2
          have := ih G2 (q + 1) _ r (by omega) (by omega) (fun t ht => hu t (List.mem_cons_of_mem _ ht)) b2 h3
          rw [this]
          show _ = (p + ((cbL la na (f (a + q) % 256) ++ tksL la na lb nb (tkG f a e gg ((q + 1 : Nat) : Int))).length : Int), sl f a e)
          rw [List.length_append]
          rw [show p + la (f (a + q) % 256) + ((tksL la na lb nb (tkG f a e gg ((q + 1 : Nat) : Int))).length : Int) = p + (((cbL la na (f (a + q) % 256)).length + (tksL la na lb nb (tkG f a e gg ((q + 1 : Nat) : Int))).length : Nat) : Int) by omega]
        · rw [if_neg c2] at h3
          cases h3
      · have mr := bmS_r (f := f) (a := a) (e := e) (p := q) (by omega)
        obtain ⟨n, d, hm⟩ : ∃ n d : Int, bmS f a e q = (n, d) := ⟨_, _, rfl⟩
        have me : ∀ i : Int, 0 ≤ i → i < (bmS f a e q).1 → f (a + q - (bmS f a e q).2 + i) % 256 = f (a + q + i) % 256 := by
          unfold bmS
          split
          · exact bm_eq _ 0 0 0 (fun i i0 i1 => by omega)
          · intro i i0 i1
            have i2 : i < 0 := i1
            omega
        rw [hm] at mr me c0
        have mr2 : (n = 0 ∧ d = 0) ∨ ((3 ≤ n ∧ n ≤ 258 ∧ q + n ≤ e) ∧ 1 ≤ d ∧ d ≤ 32768 ∧ d ≤ q) := mr
        have c1 : n ≠ 0 := c0
        have n1 : 3 ≤ n ∧ n ≤ 258 := by omega
        have d1 : 1 ≤ d ∧ d ≤ 32768 := by omega
        have et : tkG f a e (gg + 1) q = (n, d) :: tkG f a e gg ((q + n.toNat : Nat) : Int) := by
          show (if (e : Int) ≤ q then [] else if (bmS f a e q).1 = 0 then (0, f (a + q) % 256) :: tkG f a e gg ((q : Int) + 1) else bmS f a e q :: tkG f a e gg (q + (bmS f a e q).1)) = _
          rw [if_neg c, hm, if_neg c0]
          rw [show ((q + n.toNat : Nat) : Int) = q + n by omega]
        rw [et] at hb hu ⊢
        have tl : tkL la na lb nb (n, d) = cbL la na (lnY n) ++ (nbL (n - lnB (lnY n)) (lnM (lnY n)) ++ (cbL lb nb (dsY d) ++ nbL (d - dsB (dsY d)) (dsM (dsY d)))) := if_neg c1
        have hb1 : bAt g p (tkL la na lb nb (n, d) ++ tksL la na lb nb (tkG f a e gg ((q + n.toNat : Nat) : Int))) := hb
        have u1 := hu _ (List.mem_cons_self ..)
        have ty : tkY (n, d) = lnY n := if_neg c1
        have u2 : 0 < la (lnY n) ∧ la (lnY n) ≤ 15 := by
          rw [← ty]
          exact u1.1
        have u3 : 0 < lb (dsY d) ∧ lb (dsY d) ≤ 15 := u1.2 c1
        have l1 := lnY_r n1
        have b1 := bAt_l hb1
        rw [tl] at b1
        obtain ⟨G2, h3⟩ := dec_1 ka (s := lnY n) (by omega) u2 (bAt_l b1) h
        rw [if_neg (by omega), if_neg (by omega)] at h3
        have cl := cbL_len la na (s := lnY n) (by omega)
        have b2 := bAt_r b1
        rw [cl] at b2
        cases hq : smL g E lb nb W mo (lnY n) (p + la (lnY n)) (sl f a q) with
        | none =>
          rw [hq] at h3
          cases h3
        | some q2 =>
          have e2 := dec_sm kb n1 d1 hnb u3 b2 hq
          rw [hq, e2] at h3
          have h4 : smG g E la na lb nb W mo G2 (p + la (lnY n) + lnM (lnY n) + lb (dsY d) + dsM (dsY d)) (cpB (sl f a q) d.toNat n.toNat) = some r := h3
          rw [cpB_sl (by omega) n.toNat q (by omega) (fun i hi => by
            have := me i (by omega) (show (i : Int) < n by omega)
            have m2 : f (a + q - d + i) % 256 = f (a + q + i) % 256 := this
            rw [show ((d.toNat : Nat) : Int) = d by omega]
            exact m2)] at h4
          have cl2 := cbL_len lb nb (s := dsY d) (by omega)
          have tlen : ((tkL la na lb nb (n, d)).length : Int) = la (lnY n) + lnM (lnY n) + lb (dsY d) + dsM (dsY d) := by
            rw [tl, List.length_append, List.length_append, List.length_append, nbL_len, nbL_len]
            omega
          have b5 := bAt_r hb1
          rw [tlen, show p + (la (lnY n) + lnM (lnY n) + lb (dsY d) + dsM (dsY d)) = p + la (lnY n) + lnM (lnY n) + lb (dsY d) + dsM (dsY d) by omega] at b5
          have := ih G2 (q + n.toNat) _ r (by omega) (by omega) (fun t ht => hu t (List.mem_cons_of_mem _ ht)) b5 h4
          rw [this]
          show _ = (p + ((tkL la na lb nb (n, d) ++ tksL la na lb nb (tkG f a e gg ((q + n.toNat : Nat) : Int))).length : Int), sl f a e)
          rw [List.length_append, show p + la (lnY n) + lnM (lnY n) + lb (dsY d) + dsM (dsY d) + ((tksL la na lb nb (tkG f a e gg ((q + n.toNat : Nat) : Int))).length : Int) = p + (((tkL la na lb nb (n, d)).length + (tksL la na lb nb (tkG f a e gg ((q + n.toNat : Nat) : Int))).length : Nat) : Int) by omega]
end DECT
