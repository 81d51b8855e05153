/-! PACKING: lengths and codes made; the class -/
/-- the length of the code of a symbol -/
def lgF (c : Int → Int) (n li : Nat) (x : Int) : Int := if x ∈ rkG c n then vLn c n li ((rkG c n).idxOf x) else 0
theorem lgF_eq {A c : Int → Int} {n li : Nat} (h : lnV A (rkG c n) n (vLn c n li)) {x : Int} (h0 : 0 ≤ x) (h1 : x < n) : A x = lgF c n li x := by
  unfold lgF
  by_cases e : x ∈ rkG c n
  · rw [if_pos e]
    refine h.1 _ _ ?_
    have l1 := List.idxOf_lt_length_of_mem e
    rw [List.getElem?_eq_getElem l1, List.getElem_idxOf l1]
  · rw [if_neg e]
    exact h.2 x h0 h1 e
theorem plG_b {w : Nat → Int} {m : Nat} : ∀ (l t a : Nat), 0 ≤ plG w m l t a ∧ plG w m l t a ≤ l
  | 0, t, a => by
    show (0 : Int) ≤ 0 ∧ (0 : Int) ≤ ((0 : Nat) : Int)
    omega
  | l + 1, t, a => by
    have ih := plG_b (w := w) (m := m) l (2 * (t - nSg (pmL w m l) t)) a
    show 0 ≤ (if a < nSg (pmL w m l) t then 1 else 0) + plG w m l (2 * (t - nSg (pmL w m l) t)) a ∧ (if a < nSg (pmL w m l) t then 1 else 0) + plG w m l (2 * (t - nSg (pmL w m l) t)) a ≤ ((l + 1 : Nat) : Int)
    split <;> omega
theorem lgF_b {c : Int → Int} {n li : Nat} (hli : 1 ≤ li) (x : Int) : 0 ≤ lgF c n li x ∧ lgF c n li x ≤ li := by
  unfold lgF vLn
  have b := plG_b (w := wOf c (rkG c n)) (m := (rkG c n).length) li (2 * (rkG c n).length - 2) ((rkG c n).idxOf x)
  split
  · split <;> omega
  · omega
section MKLENS
variable {d nx zl : Nat} {K : Option TV → FH → Prop} {sh : Nat → Option Shp} {M : FM} {q c0 c1 c2 c4 c5 n li : Nat} {c : Int → Int}
/-- what makeLengths leaves -/
def mlK (M M2 : FM) (c1 c2 c4 c5 : Nat) : Prop := ∀ x : Nat, x ≠ c1 → x ≠ c2 → x ≠ c4 → x ≠ c5 → x ≠ 65 → x ≠ 66 → x ≠ 67 → M2 x = M x
theorem makeLengths_Y (hq : cqS sh q c0 c1 c2 c4 c5 n) (h67 : c0 < 65 ∧ c1 < 65 ∧ c2 < 65 ∧ c4 < 65 ∧ c5 < 65) (hn : n ≤ 286) (hli : 1 ≤ li ∧ li ≤ 15) (hbig : (n - 1) / 2 ^ (li - 1) ≤ 1) (hc : ∀ s : Int, 0 ≤ s → s < n → M c0 s = c s ∧ 0 ≤ c s ∧ c s ≤ 100000)
    (k : ∀ M2 : FM, mlK M M2 c1 c2 c4 c5 → (∀ s : Nat, s < n → M2 c1 s = lgF c n li s) → (∀ s : Nat, s < n → M2 c2 s = rvB (cdC (lgF c n li) n s) (lgF c n li s).toNat) → K none (sh, M2, nx, zl)) : fm_Y (d + 3) 81 [.ref 22, .ref q, .int (Int32.ofInt li)] (sh, M, nx, zl) K := by
  have hq' := hq
  obtain ⟨⟨c3, hs⟩, ⟨s0, s1, s2, s4, s5⟩, ⟨g0, g1, g2, g4, g5⟩, ⟨n0, n1, n2, n3, n4, n5, n6⟩, -⟩ := hq
  obtain ⟨rl, rs, rb⟩ := rkG_p (c := c) n
  have hnd := rkG_nd (c := c) n
  obtain ⟨rk, grk⟩ : ∃ rk : List Int, rk = rkG c n := ⟨_, rfl⟩
  obtain ⟨m, hm⟩ : ∃ m : Nat, rk.length = m := ⟨_, rfl⟩
  have evl : ∀ a : Nat, vLn c n li a = if m = 1 then 1 else plG (wOf c rk) m li (2 * m - 2) a := by
    intro a
    unfold vLn
    rw [← grk, hm]
  refine m81 [fx 22, gr q, ti li] ?_
  -- behind the lengths
  have B101 : ∀ (M2 : FM) (y3 y4 y5 : Option TV), mlK M M2 c1 c2 c4 c5 → lnV (M2 c1) rk n (vLn c n li) → b81_101 (d + 2) (fW (d + 2) kd81 K) K [some (fx 22), some (gr q), some (ti li), y3, y4, y5] [] (sh, M2, nx, zl) := by
    intro M2 y3 y4 y5 F2 hv
    rw [grk] at hv
    refine ⟨⟨_, hs⟩, ?_⟩
    refine assign_Y hq' (ls := lgF c n li) (fun s hs => ⟨lgF_eq hv (by omega) (by omega), (lgF_b hli.1 s).1, by have := (lgF_b (c := c) (n := n) hli.1 s).2; omega⟩) (fun M3 F3 h2 => ?_)
    exact k M3 (fun x x1 x2 x3 x4 x5 x6 x7 => by rw [F3 x x2 x3 x4]; exact F2 x x1 x2 x3 x4 x5 x6 x7) (fun s hs => by rw [F3 c1 n1 n2 n3]; exact lgF_eq hv (by omega) (by omega)) h2
  -- behind the zeros
  have B2 : ∀ M1 : FM, (∀ x : Nat, x ≠ c1 → M1 x = M x) → (∀ x : Int, 0 ≤ x → x < n → M1 c1 x = 0) → (o_al 0 (o_al 1 (o_get 6 0 0 (o_callv (d + 2) 82 1 5 (o_is 3 (o_il 3 (o_ic 1 (o_icmp .ne (o_il 3 (o_ic 1 (o_icmp .le (b81_101 (d + 2) (fW (d + 2) kd81 K) K) (o_ic 0 (o_is 4 (o_ic 0 (o_is 5 (fW (d + 2) kd81 K 64)))))))) (o_al 1 (o_get 6 1 1 (o_al 0 (o_get 5 15 15 (o_ic 0 (o_iald (o_ic 1 (o_iast (b81_101 (d + 2) (fW (d + 2) kd81 K) K)))))))))))))))) : FC) [some (fx 22), some (gr q), some (ti li), some (ti n), none, none] [] (sh, M1, nx, zl) := by
    intro M1 F1 hz
    refine ⟨_, hs, ?_⟩
    refine rankC_Y s0 hn (by omega) (fun s s0 s1 => by rw [F1 c0 (fun z => n0 z.symm)]; exact hc s s0 s1) (fun M2 F2 hrk => ?_)
    rw [← grk] at hrk rl rs rb hnd ⊢
    rw [hm] at rl ⊢
    have L0 : lnV (M2 c1) rk n (fun _ => 0) := by
      refine ⟨fun a x hax => ?_, fun x x0 x1 _ => ?_⟩
      · have xr := rb x (List.mem_of_getElem? hax)
        rw [F2 c1 (by omega)]
        exact hz x (by omega) (by omega)
      · rw [F2 c1 (by omega)]
        exact hz x x0 x1
    have FM2 : mlK M M2 c1 c2 c4 c5 := fun x x1 x2 x3 x4 x5 x6 x7 => by rw [F2 x x5]; exact F1 x x1
    refine ⟨by omega, fun u => ?_, fun u => ?_⟩
    · refine ⟨by omega, fun v => ?_, fun v => ?_⟩
      · refine B101 M2 _ _ _ FM2 ⟨fun a x hax => ?_, L0.2⟩
        have := (List.getElem?_eq_some_iff.1 hax).1
        omega
      · -- the lists
        have big2 : (m - 1) / 2 ^ (li - 1) ≤ 1 := Nat.le_trans (Nat.div_le_div_right (by omega)) hbig
        have L64 : ∀ (G lv : Nat) (lvi sb : Int) (M3 : FM), G + lv = li → lvi = lv → sb = (pvL (wOf c rk) m lv).length → (∀ x : Nat, x ≠ 66 → x ≠ 67 → M3 x = M2 x) → (∀ i : Nat, i < (pvL (wOf c rk) m lv).length → M3 66 ((572 - (lv : Int) % 2 * 572) + i) = wgt (pvL (wOf c rk) m lv) i) → (∀ l : Nat, l < lv → ∀ i : Nat, i < (pmL (wOf c rk) m l).length → M3 67 ((l : Int) * 572 + i) = fgB (pmL (wOf c rk) m l) i) → fm_X (d + 2) kd81 64 [some (fx 22), some (gr q), some (ti li), some (ti m), some (ti sb), some (ti lvi)] [] (sh, M3, nx, zl) K := by
          intro G
          induction G with
          | zero =>
            intro lv lvi sb M3 h1 h2 h3 F3 hw hf
            refine s81_64 (d + 2) K _ _ _ ?_
            refine ⟨by omega, fun _ => ?_, fun z => by omega⟩
            refine ⟨_, hs, ?_⟩
            refine takeLists_Y (w := wOf c rk) s1 hn (by omega) (by rw [F3 65 (by omega) (by omega)]; exact hrk) hnd hm (by omega) hli big2 (fun x hx => (rb x hx).1) (fun l hl => hf l (by omega)) (by rw [F3 c1 (by omega) (by omega)]; exact L0) (fun M4 F4 hv => ?_)
            refine B101 M4 _ _ _ (fun x x1 x2 x3 x4 x5 x6 x7 => by rw [F4 x x1, F3 x x6 x7]; exact FM2 x x1 x2 x3 x4 x5 x6 x7) ?_
            have : vLn c n li = fun a => plG (wOf c rk) m li (2 * m - 2) a := by
              funext a
              rw [evl a, if_neg (by omega)]
            rw [this]
            exact hv
          | succ G ih =>
            intro lv lvi sb M3 h1 h2 h3 F3 hw hf
            refine s81_64 (d + 2) K _ _ _ ?_
            refine ⟨by omega, fun z => by omega, fun _ => ?_⟩
            refine ⟨_, hs, ?_⟩
            have e0 : M3 c0 = M c0 := by rw [F3 c0 (by omega) (by omega), F2 c0 (by omega), F1 c0 (fun z => n0 z.symm)]
            have MK := fun (K : Option TV → FH → Prop) kk => makeList_Y (d := d + 1) (K := K) (M := M3) (nx := nx) (zl := zl) (lv := lv) (c := c) (rk := rk) s0 hn (by omega) (by rw [F3 65 (by omega) (by omega)]; exact hrk) hm (by omega) (by omega) (fun x hx => ⟨(rb x hx).1, by rw [e0]; exact hc x (rb x hx).1.1 (rb x hx).1.2⟩) rfl hw kk
            rw [← h2, ← h3] at MK
            refine MK _ (fun M4 F4 hv hk => ?_)
            refine ih (lv + 1) (lvi + 1) _ M4 (by omega) (by omega) rfl (fun x x1 x2 => by rw [F4 x x1 x2]; exact F3 x x1 x2) (fun i hi => ?_) (fun l hl i hi => ?_)
            · have epv : pvL (wOf c rk) m (lv + 1) = pmL (wOf c rk) m lv := rfl
              rw [epv] at hi ⊢
              have := (hv i hi).1
              rw [← this]
              congr 1
              omega
            · by_cases e : l = lv
              · rw [e] at hi ⊢
                rw [← h2]
                exact (hv i hi).2
              · rw [hk _ (by have := (pmL_len (w := wOf c rk) (m := m) l).2; omega)]
                exact hf l (by omega) i hi
        exact L64 li 0 0 0 M2 (by omega) rfl rfl (fun _ _ _ => rfl) (fun i hi => by cases hi) (fun l hl => by omega)
    · obtain ⟨x, hax⟩ : ∃ x : Int, rk[0]? = some x := ⟨_, List.getElem?_eq_getElem (by omega)⟩
      have xr := rb x (List.mem_of_getElem? hax)
      have ex : M2 65 0 = x := hrk 0 x hax
      refine ⟨_, hs, ?_⟩
      refine ⟨by omega, ?_⟩
      rw [ex]
      refine ⟨n, s1, ⟨by omega, by omega, by omega, by omega⟩, ?_⟩
      obtain ⟨P, gP⟩ : ∃ P : FM, P = pq M2 c1 x 1 := ⟨_, rfl⟩
      have T := B101 P (some (ti m)) none none (fun y y1 y2 y3 y4 y5 y6 y7 => by rw [gP, pq_o _ _ _ y1]; exact FM2 y y1 y2 y3 y4 y5 y6 y7) ⟨fun a y hay => ?_, fun y y0 y1 hy => ?_⟩
      · rw [gP] at T
        exact T
      · have ha := (List.getElem?_eq_some_iff.1 hay).1
        have ea : a = 0 := by omega
        rw [ea, hax] at hay
        injection hay with exy
        rw [gP, ← exy, pq_at, evl, if_pos (by omega)]
      · rw [gP, pq_ne _ _ _ _ (fun z => hy (by rw [z]; exact List.mem_of_getElem? hax))]
        exact L0.2 y y0 y1 hy
  have L2 : ∀ (G : Nat) (si : Int) (M1 : FM), ((n : Int) - si).toNat < G → 0 ≤ si → si ≤ n → (∀ x : Nat, x ≠ c1 → M1 x = M x) → (∀ x : Int, 0 ≤ x → x < si → M1 c1 x = 0) → fm_X (d + 2) kd81 2 [some (fx 22), some (gr q), some (ti li), some (ti si), none, none] [] (sh, M1, nx, zl) K := by
    intro G
    induction G with
    | zero => intro si M1 z; omega
    | succ G ih =>
      intro si M1 q1 q2 q3 F1 hz
      refine s81_2 (d + 2) K _ _ _ ?_
      refine ⟨_, hs, ?_⟩
      refine ⟨_, _, s1, ?_⟩
      refine ⟨by omega, fun u => ?_, fun u => ?_⟩
      · have T := B2 M1 F1 (fun x x0 x1 => hz x x0 (by omega))
        rw [show (n : Int) = si by omega] at T
        exact T
      · refine ⟨_, hs, ?_⟩
        refine ⟨n, s1, ⟨by omega, by omega, by omega, by omega⟩, ?_⟩
        obtain ⟨P, gP⟩ : ∃ P : FM, P = pq M1 c1 si 0 := ⟨_, rfl⟩
        have T : (o_inc 3 1 (fW (d + 2) kd81 K 2) : FC) [some (fx 22), some (gr q), some (ti li), some (ti si), none, none] [] (sh, P, nx, zl) := by
          refine ih (si + 1) P (by omega) (by omega) (by omega) (fun x hx => by rw [gP, pq_o _ _ _ hx]; exact F1 x hx) (fun x x0 x1 => ?_)
          rw [gP]
          by_cases e : x = si
          · rw [e, pq_at]
          · rw [pq_ne _ _ _ _ e]
            exact hz x x0 (by omega)
        rw [gP] at T
        exact T
  exact L2 (n + 1) 0 M (by omega) (by omega) (by omega) (fun _ _ => rfl) (fun x x0 x1 => by omega)
end MKLENS
