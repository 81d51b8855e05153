/-! PACKING: lists taken; the class -/
theorem mg_split {w p : Nat → Int} {m k : Nat} : ∀ (t g a b : Nat), t ≤ g → g + a + b = m + k → a ≤ m → b ≤ k → ∃ a2 b2 : Nat, (a2 + b2 = a + b + t ∧ a ≤ a2 ∧ a2 ≤ m ∧ b2 ≤ k) ∧ nF ((mgG w p m k g a b).take t) = a2 - a
  | 0, g, a, b, _, _, h3, h4 => ⟨a, b, ⟨by omega, by omega, h3, h4⟩, by simp [nF]⟩
  | t + 1, 0, a, b, h1, _, _, _ => by omega
  | t + 1, g + 1, a, b, h1, h2, h3, h4 => by
    have e : mgG w p m k (g + 1) a b = if a < m ∧ (b = k ∨ w a ≤ p b) then (false, w a) :: mgG w p m k g (a + 1) b else (true, p b) :: mgG w p m k g a (b + 1) := rfl
    rw [e]
    split
    · rename_i c
      obtain ⟨a2, b2, ⟨x1, x2, x3, x4⟩, x5⟩ := mg_split (w := w) (p := p) (m := m) (k := k) t g (a + 1) b (by omega) (by omega) (by omega) h4
      refine ⟨a2, b2, ⟨by omega, by omega, x3, x4⟩, ?_⟩
      rw [List.take_succ_cons]
      show 1 + nF ((mgG w p m k g (a + 1) b).take t) = a2 - a
      rw [x5]
      omega
    · rename_i c
      have hb : b < k := by
        by_cases e2 : b < k
        · exact e2
        · exact absurd ⟨by omega, Or.inl (by omega)⟩ c
      obtain ⟨a2, b2, ⟨x1, x2, x3, x4⟩, x5⟩ := mg_split (w := w) (p := p) (m := m) (k := k) t g a (b + 1) (by omega) (by omega) h3 (by omega)
      refine ⟨a2, b2, ⟨by omega, by omega, x3, x4⟩, ?_⟩
      rw [List.take_succ_cons]
      show 0 + nF ((mgG w p m k g a (b + 1)).take t) = a2 - a
      rw [x5]
      omega
/-- among the first t of a list: no more symbols than there are, no more pairs -/
theorem pm_sp {w : Nat → Int} {m l t : Nat} (ht : t ≤ (pmL w m l).length) : nSg (pmL w m l) t ≤ m ∧ nSg (pmL w m l) t ≤ t ∧ 2 * (t - nSg (pmL w m l) t) ≤ (pvL w m l).length := by
  have e := pmL_pv w m l
  have hl : (pmL w m l).length = m + (pvL w m l).length / 2 := by rw [e, mgG_len]
  obtain ⟨a2, b2, ⟨x1, x2, x3, x4⟩, x5⟩ := mg_split (w := w) (p := prW (pvL w m l)) (m := m) (k := (pvL w m l).length / 2) t (m + (pvL w m l).length / 2) 0 0 (by omega) (by omega) (by omega) (by omega)
  have en : nSg (pmL w m l) t = a2 := by
    unfold nSg
    rw [e, x5]
    omega
  rw [en]
  omega
theorem pm_enough {w : Nat → Int} {m : Nat} (hm : 1 ≤ m) : ∀ l : Nat, (pmL w m l).length = 2 * m - 1 - (m - 1) / 2 ^ l
  | 0 => by
    have e : (pmL w m 0).length = m := mgG_len _ _ _
    rw [e, Nat.pow_zero, Nat.div_one]
    omega
  | l + 1 => by
    have ih := pm_enough (w := w) hm l
    have e : (pmL w m (l + 1)).length = m + (pmL w m l).length / 2 := mgG_len _ _ _
    rw [e, ih, Nat.pow_succ, ← Nat.div_div_eq_div_mul]
    have : (m - 1) / 2 ^ l ≤ m - 1 := Nat.div_le_self _ _
    omega
theorem insR_nd {c : Int → Int} {s : Int} : ∀ l : List Int, s ∉ l → l.Nodup → (insR c s l).Nodup
  | [], _, _ => by simp [insR]
  | y :: r, h1, h2 => by
    rw [List.nodup_cons] at h2
    rw [List.mem_cons, not_or] at h1
    show (if c s < c y then s :: y :: r else y :: insR c s r).Nodup
    split
    · rw [List.nodup_cons, List.nodup_cons, List.mem_cons, not_or]
      exact ⟨h1, h2⟩
    · rw [List.nodup_cons]
      refine ⟨fun h => ?_, insR_nd r h1.2 h2.2⟩
      rcases (insR_mem r).1 h with e | e
      · exact h1.1 e.symm
      · exact h2.1 e
theorem rkG_nd {c : Int → Int} : ∀ n : Nat, (rkG c n).Nodup
  | 0 => List.nodup_nil
  | n + 1 => by
    have e : rkG c (n + 1) = if 0 < c n then insR c n (rkG c n) else rkG c n := rfl
    rw [e]
    split
    · refine insR_nd _ (fun h => ?_) (rkG_nd n)
      have := ((rkG_p n).2.2 _ h).1
      omega
    · exact rkG_nd n
theorem nd_inj : ∀ {l : List Int}, l.Nodup → ∀ {i j : Nat} {x : Int}, l[i]? = some x → l[j]? = some x → i = j
  | [], _, i, j, x, h1, _ => by cases h1
  | y :: r, h, i, j, x, h1, h2 => by
    rw [List.nodup_cons] at h
    cases i with
    | zero =>
      have e1 : y = x := by injection h1
      cases j with
      | zero => rfl
      | succ j =>
        have h2' : r[j]? = some x := h2
        exact absurd (by rw [e1]; exact List.mem_of_getElem? h2') h.1
    | succ i =>
      have h1' : r[i]? = some x := h1
      cases j with
      | zero =>
        have e1 : y = x := by injection h2
        exact absurd (by rw [e1]; exact List.mem_of_getElem? h1') h.1
      | succ j =>
        have h2' : r[j]? = some x := h2
        rw [nd_inj h.2 h1' h2']
/-- lengths as they lie: v of the rank for symbols that are ranked, 0 for the others -/
def lnV (A : Int → Int) (rk : List Int) (n : Nat) (v : Nat → Int) : Prop := (∀ (a : Nat) (x : Int), rk[a]? = some x → A x = v a) ∧ ∀ x : Int, 0 ≤ x → x < n → x ∉ rk → A x = 0
section TAKE
variable {d nx zl : Nat} {K : Option TV → FH → Prop} {sh : Nat → Option Shp} {M : FM}
theorem takeLists_Y {lc n m li : Nat} {w : Nat → Int} {rk : List Int} (hs : shp sh lc = some (.inl (.int, n))) (hn : n ≤ 286) (hlc : lc ≠ 65 ∧ lc ≠ 67 ∧ 3 ≤ lc) (hrk : rkV (M 65) rk) (hnd : rk.Nodup) (hm : rk.length = m) (hm2 : 2 ≤ m ∧ m ≤ 286) (hli : 1 ≤ li ∧ li ≤ 15) (hbig : (m - 1) / 2 ^ (li - 1) ≤ 1) (hx : ∀ x ∈ rk, 0 ≤ x ∧ x < n) (hfl : ∀ l : Nat, l < li → ∀ i : Nat, i < (pmL w m l).length → M 67 ((l : Int) * 572 + i) = fgB (pmL w m l) i) (h0 : lnV (M lc) rk n (fun _ => 0))
    (k : ∀ M2 : FM, (∀ x : Nat, x ≠ lc → M2 x = M x) → lnV (M2 lc) rk n (fun a => plG w m li (2 * m - 2) a) → K none (sh, M2, nx, zl)) : fm_Y (d + 1) 84 [.ref 22, .ref lc, .int (Int32.ofInt m), .int (Int32.ofInt li)] (sh, M, nx, zl) K := by
  refine m84 [fx 22, gr lc, ti m, ti li] ?_
  have L : ∀ (l t : Nat) (ti' li' : Int) (M1 : FM) (v : Nat → Int) (y6 y7 : Option TV), li' = (l : Int) - 1 → l ≤ li → ti' = t → (1 ≤ l → t ≤ (pmL w m (l - 1)).length) → (∀ x : Nat, x ≠ lc → M1 x = M x) → lnV (M1 lc) rk n v → (∀ a : Nat, a < m → plG w m li (2 * m - 2) a = v a + plG w m l t a) → fm_X d kd84 12 [some (fx 22), some (gr lc), some (ti m), some (ti li), some (ti ti'), some (ti li'), y6, y7] [] (sh, M1, nx, zl) K := by
    intro l
    induction l with
    | zero =>
      intro t ti' li' M1 v y6 y7 h1 h2 h3 h4 F1 hv hp
      refine s84_12 d K _ _ _ ?_
      refine ⟨by omega, fun _ => k M1 F1 ⟨fun a x hax => ?_, hv.2⟩, fun z => by omega⟩
      have ha : a < m := by
        rw [← hm]
        exact (List.getElem?_eq_some_iff.1 hax).1
      have e := hp a ha
      have e2 : plG w m 0 t a = 0 := rfl
      rw [e2, Int.add_zero] at e
      exact (hv.1 a x hax).trans e.symm
    | succ l ih =>
      intro t ti' li' M1 v y6 y7 h1 h2 h3 h4 F1 hv hp
      have ht := h4 (by omega)
      rw [show l + 1 - 1 = l by omega] at ht
      obtain ⟨s1, s2, s3⟩ := pm_sp ht
      have pl := (pmL_len (w := w) (m := m) l).2
      have m67 : M1 67 = M 67 := F1 67 (fun z => hlc.2.1 z.symm)
      have m65 : M1 65 = M 65 := F1 65 (fun z => hlc.1 z.symm)
      obtain ⟨sg, gsg⟩ : ∃ sg : Nat, sg = nSg (pmL w m l) t := ⟨_, rfl⟩
      rw [← gsg] at s1 s2 s3
      -- the symbols are lengthened
      have L59 : ∀ (G i : Nat) (ii : Int) (M3 : FM), ((sg : Int) - ii).toNat < G → ii = i → i ≤ sg → (∀ x : Nat, x ≠ lc → M3 x = M x) → lnV (M3 lc) rk n (fun a => v a + (if a < i then 1 else 0)) → fm_X d kd84 59 [some (fx 22), some (gr lc), some (ti m), some (ti li), some (ti ti'), some (ti li'), some (ti sg), some (ti ii)] [] (sh, M3, nx, zl) K := by
        intro G
        induction G with
        | zero => intro i ii M3 q; omega
        | succ G ih2 =>
          intro i ii M3 q1 q2 q3 F3 hv3
          refine s84_59 d K _ _ _ ?_
          refine ⟨by omega, fun u => ?_, fun u => ?_⟩
          · have ei : i = sg := by omega
            rw [ei] at hv3
            refine ih (2 * (t - sg)) (2 * (ti' - sg)) (li' + -1) M3 (fun a => v a + (if a < sg then 1 else 0)) _ _ (by omega) (by omega) (by omega) (fun hl => ?_) F3 hv3 (fun a ha => ?_)
            · obtain ⟨l', gl⟩ : ∃ l' : Nat, l = l' + 1 := ⟨l - 1, by omega⟩
              rw [gl] at s3 ⊢
              rw [show l' + 1 - 1 = l' by omega]
              exact s3
            · rw [hp a ha]
              have e : plG w m (l + 1) t a = (if a < nSg (pmL w m l) t then 1 else 0) + plG w m l (2 * (t - nSg (pmL w m l) t)) a := rfl
              rw [e, ← gsg]
              show _ = v a + (if a < sg then 1 else 0) + _
              omega
          · obtain ⟨x, hax⟩ : ∃ x : Int, rk[i]? = some x := ⟨_, List.getElem?_eq_getElem (by omega)⟩
            have xr := hx x (List.mem_of_getElem? hax)
            have ax : M3 65 ii = x := by
              rw [F3 65 (fun z => hlc.1 z.symm), q2]
              exact hrk i x hax
            refine ⟨by omega, ?_⟩
            rw [ax]
            refine ⟨n, hs, ⟨by omega, by omega, by omega⟩, ?_⟩
            refine ⟨n, hs, ⟨hlc.2.2, by omega, by omega, by omega⟩, ?_⟩
            obtain ⟨P, gP⟩ : ∃ P : FM, P = pq M3 lc x (M3 lc x + 1) := ⟨_, rfl⟩
            have TL : fm_X d kd84 59 [some (fx 22), some (gr lc), some (ti m), some (ti li), some (ti ti'), some (ti li'), some (ti sg), some (ti (ii + 1))] [] (sh, P, nx, zl) K := by
              refine ih2 (i + 1) (ii + 1) P (by omega) (by omega) (by omega) (fun y hy => by rw [gP, pq_o _ _ _ hy]; exact F3 y hy) ⟨fun a y hay => ?_, fun y y0 y1 hy => ?_⟩
              · have b := hv3.1 a y hay
                dsimp only at b ⊢
                by_cases e : a = i
                · have exy : x = y := by
                    rw [e, hax] at hay
                    injection hay
                  rw [← exy] at b ⊢
                  rw [gP, pq_at, b, e, if_neg (by omega), if_pos (by omega)]
                  omega
                · have exy : y ≠ x := fun z => e (nd_inj hnd hay (by rw [z]; exact hax))
                  rw [gP, pq_ne _ _ _ _ exy, b]
                  by_cases c1 : a < i
                  · rw [if_pos c1, if_pos (by omega)]
                  · rw [if_neg c1, if_neg (by omega)]
              · rw [gP, pq_ne _ _ _ _ (fun z => hy (by rw [z]; exact List.mem_of_getElem? hax))]
                exact hv3.2 y y0 y1 hy
            rw [gP] at TL
            exact TL
      -- the symbols among the first are counted
      have L23 : ∀ (G i : Nat) (ii si : Int), ((t : Int) - ii).toNat < G → ii = i → i ≤ t → si = nSg (pmL w m l) i → fm_X d kd84 23 [some (fx 22), some (gr lc), some (ti m), some (ti li), some (ti ti'), some (ti li'), some (ti si), some (ti ii)] [] (sh, M1, nx, zl) K := by
        intro G
        induction G with
        | zero => intro i ii si q; omega
        | succ G ih2 =>
          intro i ii si q1 q2 q3 q4
          refine s84_23 d K _ _ _ ?_
          refine ⟨by omega, fun u => ?_, fun u => ?_⟩
          · have ei : i = t := by omega
            rw [ei, ← gsg] at q4
            rw [q4]
            exact L59 _ 0 0 M1 (Nat.lt_succ_self _) rfl (by omega) F1 ⟨fun a x hax => by
              dsimp only
              rw [if_neg (by omega), Int.add_zero]
              exact hv.1 a x hax, hv.2⟩
          · obtain ⟨q, hq⟩ : ∃ q : Bool × Int, (pmL w m l)[i]? = some q := ⟨_, List.getElem?_eq_getElem (by omega)⟩
            have st := nSg_step hq
            have fl := hfl l (by omega) i (by omega)
            have ef : fgB (pmL w m l) i = if q.1 then 1 else 0 := by
              unfold fgB
              rw [hq]
            rw [ef] at fl
            have fl' : M1 67 (li' * 572 + ii) = if q.1 then 1 else 0 := by
              rw [m67, show li' * 572 + ii = (l : Int) * 572 + i by omega]
              exact fl
            refine ⟨by omega, ?_⟩
            rw [fl']
            cases hb : q.1 with
            | true =>
              rw [hb] at st
              refine ⟨by decide, fun _ => ?_, fun z => absurd z (by decide)⟩
              refine ih2 (i + 1) (ii + 1) si (by omega) (by omega) (by omega) ?_
              rw [st, q4]
              rfl
            | false =>
              rw [hb] at st
              refine ⟨by decide, fun z => absurd rfl z, fun _ => ?_⟩
              refine ih2 (i + 1) (ii + 1) (si + 1) (by omega) (by omega) (by omega) ?_
              rw [st, q4]
              rfl
      refine s84_12 d K _ _ _ ?_
      refine ⟨by omega, fun z => by omega, fun _ => ?_⟩
      exact L23 _ 0 0 0 (Nat.lt_succ_self _) rfl (by omega) (by simp [nSg, nF])
  have en := pm_enough (w := w) (m := m) (by omega) (li - 1)
  refine L li (2 * m - 2) _ _ M (fun _ => 0) none none (by omega) (by omega) (by omega) (fun _ => by rw [en]; omega) (fun _ _ => rfl) h0 (fun a _ => by omega)
end TAKE
