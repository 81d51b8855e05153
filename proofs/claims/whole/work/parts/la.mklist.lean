/-! PACKING: lists made; the class -/
def wOf (c : Int → Int) (l : List Int) (i : Nat) : Int := match l[i]? with
  | none => 0
  | some x => c x
def fgB (L : List (Bool × Int)) (i : Nat) : Int := match L[i]? with
  | none => 0
  | some q => if q.1 then 1 else 0
theorem wgt_pre {pre r : List (Bool × Int)} {q : Bool × Int} {i : Nat} : wgt (pre ++ q :: r) i = if i < pre.length then wgt pre i else if i = pre.length then q.2 else wgt (q :: r) (i - pre.length) := by
  unfold wgt
  by_cases c : i < pre.length
  · rw [if_pos c, List.getElem?_append_left c]
  · rw [if_neg c, List.getElem?_append_right (by omega)]
    by_cases c2 : i = pre.length
    · rw [if_pos c2, c2, show pre.length - pre.length = 0 by omega]
      rfl
    · rw [if_neg c2]
theorem pv_b {w : Nat → Int} {m : Nat} {W : Int} (hW : 0 ≤ W) (hw : ∀ i : Nat, i < m → 0 ≤ w i ∧ w i ≤ W) (l : Nat) (hl : l ≤ 14) : ∀ q ∈ pvL w m l, 0 ≤ q.2 ∧ q.2 ≤ W * 8192 := by
  cases l with
  | zero => exact fun q hq => by cases hq
  | succ l =>
    intro q hq
    have h := pmL_b hW hw l q hq
    have : W * 2 ^ l ≤ W * 8192 := by
      refine Int.mul_le_mul_of_nonneg_left ?_ hW
      have hl' : l = 0 ∨ l = 1 ∨ l = 2 ∨ l = 3 ∨ l = 4 ∨ l = 5 ∨ l = 6 ∨ l = 7 ∨ l = 8 ∨ l = 9 ∨ l = 10 ∨ l = 11 ∨ l = 12 ∨ l = 13 := by omega
      rcases hl' with e | e | e | e | e | e | e | e | e | e | e | e | e | e <;> (rw [e]; decide)
    omega
section MKLIST
variable {d nx zl : Nat} {K : Option TV → FH → Prop} {sh : Nat → Option Shp} {M : FM}
theorem makeList_Y {cc n : Nat} {m lv sb : Nat} {c : Int → Int} {rk : List Int} (hs : shp sh cc = some (.inl (.int, n))) (hn : n ≤ 286) (hcc : cc ≠ 65 ∧ cc ≠ 66 ∧ cc ≠ 67) (hrk : rkV (M 65) rk) (hm : rk.length = m) (hm2 : 2 ≤ m ∧ m ≤ 286) (hlv : lv ≤ 14) (hc : ∀ x ∈ rk, (0 ≤ x ∧ x < n) ∧ M cc x = c x ∧ 0 ≤ c x ∧ c x ≤ 100000) (hsb : sb = (pvL (wOf c rk) m lv).length) (hpv : ∀ i : Nat, i < sb → M 66 ((572 - (lv : Int) % 2 * 572) + i) = wgt (pvL (wOf c rk) m lv) i)
    (k : ∀ M2 : FM, (∀ x : Nat, x ≠ 66 → x ≠ 67 → M2 x = M x) → (∀ i : Nat, i < (pmL (wOf c rk) m lv).length → M2 66 ((lv : Int) % 2 * 572 + i) = wgt (pmL (wOf c rk) m lv) i ∧ M2 67 ((lv : Int) * 572 + i) = fgB (pmL (wOf c rk) m lv) i) → (∀ i : Int, i < (lv : Int) * 572 → M2 67 i = M 67 i) → K (some (ti (pmL (wOf c rk) m lv).length)) (sh, M2, nx, zl)) : fm_Y (d + 1) 83 [.ref 22, .ref cc, .int (Int32.ofInt m), .int (Int32.ofInt lv), .int (Int32.ofInt sb)] (sh, M, nx, zl) K := by
  have hpl := pvL_len (w := wOf c rk) (m := m) lv
  have hw : ∀ i : Nat, i < m → 0 ≤ wOf c rk i ∧ wOf c rk i ≤ 100000 := by
    intro i hi
    unfold wOf
    rw [List.getElem?_eq_getElem (by omega)]
    exact (hc _ (List.getElem_mem _)).2.2
  have pb := pv_b (m := m) (W := 100000) (by omega) hw lv hlv
  obtain ⟨L, gL⟩ : ∃ L : List (Bool × Int), L = pmL (wOf c rk) m lv := ⟨_, rfl⟩
  have eL := pmL_pv (wOf c rk) m lv
  rw [← gL] at k eL
  obtain ⟨PV, gPV⟩ : ∃ PV : List (Bool × Int), PV = pvL (wOf c rk) m lv := ⟨_, rfl⟩
  rw [← gPV] at hsb hpv hpl pb eL
  have lenL : L.length = m + sb / 2 := by rw [eL, mgG_len, hsb]
  rw [lenL] at k
  refine m83 [fx 22, gr cc, ti m, ti lv, ti sb] ?_
  refine ⟨by omega, ?_⟩
  obtain ⟨hr, ghr⟩ : ∃ hr : Int, hr = (lv : Int) % 2 * 572 := ⟨_, rfl⟩
  rw [← ghr] at k hpv ⊢
  have hrr : hr = 0 ∨ hr = 572 := by omega
  have LP : ∀ (g a b : Nat) (pre : List (Bool × Int)) (M1 : FM) (si i : Int) (y10 y11 y12 : Option TV), g + a + b = m + sb / 2 → a ≤ m → b ≤ sb / 2 → pre.length = a + b → si = a → i = (a : Int) + b → (∀ x : Nat, x ≠ 66 → x ≠ 67 → M1 x = M x) → (∀ q : Nat, q < sb → M1 66 ((572 - hr) + q) = wgt PV q) → (∀ q : Nat, q < pre.length → M1 66 (hr + q) = wgt pre q ∧ M1 67 ((lv : Int) * 572 + q) = fgB pre q) → (∀ q : Int, q < (lv : Int) * 572 → M1 67 q = M 67 q) → L = pre ++ mgG (wOf c rk) (prW PV) m (sb / 2) g a b → fm_X d kd83 31 [some (fx 22), some (gr cc), some (ti m), some (ti lv), some (ti sb), some (ti hr), some (ti (572 - hr)), some (ti ((m : Int) + (sb : Int) / 2)), some (ti si), some (ti i), y10, y11, y12] [] (sh, M1, nx, zl) K := by
    intro g
    induction g with
    | zero =>
      intro a b pre M1 si i y10 y11 y12 h1 h2 h3 h4 h5 h6 F1 hp1 hv hk hL
      have e0 : mgG (wOf c rk) (prW PV) m (sb / 2) 0 a b = [] := rfl
      rw [e0, List.append_nil] at hL
      refine s83_31 d K _ _ _ ?_
      refine ⟨by omega, fun _ => ?_, fun z => by omega⟩
      have T := k M1 F1 (fun q hq => by rw [hL]; exact hv q (by omega)) hk
      rw [show ((m + sb / 2 : Nat) : Int) = (m : Int) + (sb : Int) / 2 by omega] at T
      exact T
    | succ g ih =>
      intro a b pre M1 si i y10 y11 y12 h1 h2 h3 h4 h5 h6 F1 hp1 hv hk hL
      have e0 : mgG (wOf c rk) (prW PV) m (sb / 2) (g + 1) a b = if a < m ∧ (b = sb / 2 ∨ wOf c rk a ≤ prW PV b) then (false, wOf c rk a) :: mgG (wOf c rk) (prW PV) m (sb / 2) g (a + 1) b else (true, prW PV b) :: mgG (wOf c rk) (prW PV) m (sb / 2) g a (b + 1) := rfl
      rw [e0] at hL
      have e65 : M1 65 = M 65 := F1 65 (by omega) (by omega)
      have ecc : M1 cc = M cc := F1 cc hcc.2.1 hcc.2.2
      -- the counts of the next symbol
      have CN : a < m → ∃ x : Int, M1 65 si = x ∧ (0 ≤ x ∧ x < n) ∧ M1 cc x = wOf c rk a := by
        intro ha
        obtain ⟨x, hx⟩ : ∃ x : Int, rk[a]? = some x := ⟨_, List.getElem?_eq_getElem (by omega)⟩
        obtain ⟨c1, c2, c3⟩ := hc x (List.mem_of_getElem? hx)
        refine ⟨x, ?_, c1, ?_⟩
        · rw [e65, h5]
          exact hrk a x hx
        · rw [ecc, c2]
          unfold wOf
          rw [hx]
      -- an item is put
      have PUT : ∀ (z : Int) (bo : Int) (q : Bool × Int) (a2 b2 : Nat), (z = 0 ∧ a < m ∧ q = (false, wOf c rk a) ∧ a2 = a + 1 ∧ b2 = b ∨ z = 1 ∧ q = (true, bo) ∧ a2 = a ∧ b2 = b + 1 ∧ b < sb / 2) → L = pre ++ q :: mgG (wOf c rk) (prW PV) m (sb / 2) g a2 b2 → ∀ y12 : Option TV, b83_111 d (fW d kd83 K) K [some (fx 22), some (gr cc), some (ti m), some (ti lv), some (ti sb), some (ti hr), some (ti (572 - hr)), some (ti ((m : Int) + (sb : Int) / 2)), some (ti si), some (ti i), some (ti (2 * (i - si))), some (ti bo), y12] [ti z] (sh, M1, nx, zl) := by
        intro z bo q a2 b2 hz hL2 y12
        refine ⟨by omega, ?_⟩
        obtain ⟨P1, g1⟩ : ∃ P1 : FM, P1 = pq M1 67 ((lv : Int) * 572 + i) z := ⟨_, rfl⟩
        have o1 : ∀ x : Nat, x ≠ 67 → P1 x = M1 x := fun x hx => by rw [g1, pq_o _ _ _ hx]
        have ST : ∀ v : Int, v = q.2 → b83_156 d (fW d kd83 K) K [some (fx 22), some (gr cc), some (ti m), some (ti lv), some (ti sb), some (ti hr), some (ti (572 - hr)), some (ti ((m : Int) + (sb : Int) / 2)), some (ti si), some (ti i), some (ti (2 * (i - si))), some (ti bo), some (ti z)] [ti v, ti (hr + i), fx 66] (sh, P1, nx, zl) := by
          intro v hv2
          refine ⟨by omega, ?_⟩
          obtain ⟨P2, g2⟩ : ∃ P2 : FM, P2 = pq P1 66 (hr + i) v := ⟨_, rfl⟩
          have h67 : ∀ t : Int, P2 67 t = if t = (lv : Int) * 572 + i then z else M1 67 t := by
            intro t
            rw [g2, pq_o _ _ _ (by omega), g1]
            by_cases e : t = (lv : Int) * 572 + i
            · rw [e, pq_at, if_pos rfl]
            · rw [pq_ne _ _ _ _ e, if_neg e]
          have h66 : ∀ t : Int, P2 66 t = if t = hr + i then v else M1 66 t := by
            intro t
            rw [g2]
            by_cases e : t = hr + i
            · rw [e, pq_at, if_pos rfl]
            · rw [pq_ne _ _ _ _ e, if_neg e, o1 66 (by omega)]
          have NX : ∀ s2 : Int, s2 = a2 → fm_X d kd83 31 [some (fx 22), some (gr cc), some (ti m), some (ti lv), some (ti sb), some (ti hr), some (ti (572 - hr)), some (ti ((m : Int) + (sb : Int) / 2)), some (ti s2), some (ti (i + 1)), some (ti (2 * (i - si))), some (ti bo), some (ti z)] [] (sh, P2, nx, zl) K := by
            intro s2 hs2
            refine ih a2 b2 (pre ++ [q]) P2 s2 (i + 1) _ _ _ (by omega) (by omega) (by omega) (by simp only [List.length_append, List.length_cons, List.length_nil]; omega) hs2 (by omega) (fun x x1 x2 => by rw [g2, pq_o _ _ _ x1, o1 x x2]; exact F1 x x1 x2) (fun t ht => ?_) (fun t ht => ?_) (fun t ht => ?_) (by rw [hL2, List.append_assoc]; rfl)
            · rw [h66, if_neg (by omega)]
              exact hp1 t ht
            · simp only [List.length_append, List.length_cons, List.length_nil] at ht
              have ew := wgt_pre (pre := pre) (r := []) (q := q) (i := t)
              have ef : fgB (pre ++ [q]) t = if t < pre.length then fgB pre t else if t = pre.length then (if q.1 then 1 else 0) else 0 := by
                unfold fgB
                rw [apG]
                by_cases e : t < pre.length
                · rw [if_pos e, if_pos e]
                · rw [if_neg e, if_neg e]
                  by_cases e2 : t = pre.length
                  · rw [if_pos e2, if_pos e2]
                  · rw [if_neg e2, if_neg e2]
              by_cases e : t < pre.length
              · rw [if_pos e] at ew ef
                obtain ⟨x1, x2⟩ := hv t e
                rw [h66, if_neg (by omega), h67, if_neg (by omega), x1, x2]
                exact ⟨ew.symm, ef.symm⟩
              · have e2 : t = pre.length := by omega
                rw [if_neg e, if_pos e2] at ew ef
                rw [h66, if_pos (by omega), h67, if_pos (by omega), hv2]
                refine ⟨ew.symm, ?_⟩
                rw [ef]
                rcases hz with ⟨z0, -, z2, -⟩ | ⟨z0, z2, -⟩
                · rw [z0, z2]
                  rfl
                · rw [z0, z2]
                  rfl
            · rw [h67, if_neg (by omega)]
              exact hk t ht
          have TL : (o_il 8 (o_il 12 (o_if .eq (o_ic 1 (b83_169 d (fW d kd83 K) K)) (o_ic 0 (b83_169 d (fW d kd83 K) K)))) : FC) [some (fx 22), some (gr cc), some (ti m), some (ti lv), some (ti sb), some (ti hr), some (ti (572 - hr)), some (ti ((m : Int) + (sb : Int) / 2)), some (ti si), some (ti i), some (ti (2 * (i - si))), some (ti bo), some (ti z)] [] (sh, P2, nx, zl) := by
            refine ⟨by omega, fun u => NX (si + 1) (by omega), fun u => NX (si + 0) (by omega)⟩
          rw [g2] at TL
          exact TL
        have T1 : (o_al 0 (o_get 5 16 16 (o_il 5 (o_il 9 (o_iadd (o_il 12 (o_if .eq (o_al 1 (o_al 0 (o_get 5 15 15 (o_il 8 (o_iald (o_iald (b83_156 d (fW d kd83 K) K))))))) (o_il 11 (b83_156 d (fW d kd83 K) K)))))))) : FC) [some (fx 22), some (gr cc), some (ti m), some (ti lv), some (ti sb), some (ti hr), some (ti (572 - hr)), some (ti ((m : Int) + (sb : Int) / 2)), some (ti si), some (ti i), some (ti (2 * (i - si))), some (ti bo), some (ti z)] [] (sh, P1, nx, zl) := by
          rcases hz with ⟨z0, z1, z2, -⟩ | ⟨z0, z2, -⟩
          · obtain ⟨x, x1, x2, x3⟩ := CN z1
            refine ⟨by omega, fun _ => ?_, fun u => by omega⟩
            refine ⟨by omega, ?_⟩
            rw [o1 65 (by omega), x1]
            refine ⟨n, hs, ⟨by omega, by omega, by omega⟩, ?_⟩
            rw [o1 cc hcc.2.2, x3]
            exact ST _ (by rw [z2])
          · refine ⟨by omega, fun u => by omega, fun _ => ?_⟩
            exact ST _ (by rw [z2])
        rw [g1] at T1
        exact T1
      -- which one
      have B84 : ∀ bo : Int, (b = sb / 2 → bo = 2147483647) → (b < sb / 2 → bo = prW PV b ∧ 0 ≤ bo ∧ bo ≤ 2000000000) → ∀ y11 : Option TV, b83_84 d (fW d kd83 K) K [some (fx 22), some (gr cc), some (ti m), some (ti lv), some (ti sb), some (ti hr), some (ti (572 - hr)), some (ti ((m : Int) + (sb : Int) / 2)), some (ti si), some (ti i), some (ti (2 * (i - si))), y11, y12] [ti bo] (sh, M1, nx, zl) := by
        intro bo b0 b1 y11
        refine ⟨by omega, fun u => ?_, fun u => ?_⟩
        · rw [if_neg (by omega)] at hL
          exact PUT 1 bo _ a (b + 1) (Or.inr ⟨rfl, rfl, rfl, rfl, by omega⟩) (by rw [(b1 (by omega)).1]; exact hL) y12
        · obtain ⟨x, x1, x2, x3⟩ := CN (by omega)
          have wa := hw a (by omega)
          refine ⟨by omega, ?_⟩
          rw [x1]
          refine ⟨n, hs, ⟨by omega, by omega, by omega⟩, ?_⟩
          rw [x3]
          refine ⟨by omega, fun v => ?_, fun v => ?_⟩
          · rw [if_pos (by omega)] at hL
            exact PUT 0 bo _ (a + 1) b (Or.inl ⟨rfl, by omega, rfl, rfl, rfl⟩) hL y12
          · rw [if_neg (by omega)] at hL
            exact PUT 1 bo _ a (b + 1) (Or.inr ⟨rfl, rfl, rfl, rfl, by omega⟩) (by rw [(b1 (by omega)).1]; exact hL) y12
      refine s83_31 d K _ _ _ ?_
      refine ⟨by omega, fun z => by omega, fun _ => ?_⟩
      refine ⟨by omega, fun u => ?_, fun u => ?_⟩
      · exact B84 _ (fun _ => rfl) (fun z => by omega) _
      · have q1 := hp1 (2 * b) (by omega)
        have q2 := hp1 (2 * b + 1) (by omega)
        have w1 := wgt_b pb (i := 2 * b) (by omega)
        have w2 := wgt_b pb (i := 2 * b + 1) (by omega)
        refine ⟨by omega, ?_⟩
        refine ⟨by omega, ?_⟩
        have e1 : M1 66 (572 - hr + 2 * (i - si)) = wgt PV (2 * b) := by
          rw [← q1]
          congr 1
          omega
        have e2 : M1 66 (572 - hr + 2 * (i - si) + 1) = wgt PV (2 * b + 1) := by
          rw [← q2]
          congr 1
          omega
        rw [e1, e2]
        exact B84 _ (fun z => by omega) (fun _ => ⟨rfl, by unfold prW at *; omega, by unfold prW at *; omega⟩) _
  refine LP (m + sb / 2) 0 0 [] M 0 0 none none none (by omega) (by omega) (by omega) rfl rfl rfl (fun _ _ _ => rfl) hpv (fun q hq => by cases hq) (fun _ _ => rfl) ?_
  rw [eL, hsb]
  rfl
end MKLIST
