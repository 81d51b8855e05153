/-! PACKING: lengths found; the reference -/
/-- the length of the code of rank a -/
def vLn (c : Int → Int) (n li a : Nat) : Int := if (rkG c n).length = 1 then 1 else plG (wOf c (rkG c n)) (rkG c n).length li (2 * (rkG c n).length - 2) a
def flK (M2 M : FM) : Prop := ∀ x : Nat, x ≠ 194 → x ≠ 196 → x ≠ 197 → x ≠ 198 → x ≠ 199 → M2 x = M x
theorem itm_pre {pre r : List (Bool × Int)} {q : Bool × Int} : itm (pre ++ q :: r) pre.length = if q.1 then -1 - 2 * ((pre.length : Int) - nF pre) else nF pre := by
  unfold itm flG
  rw [nSg_pre, List.getElem?_append_right (Nat.le_refl _), Nat.sub_self]
  rfl
section MLENS
variable {d nx zl : Nat} {K : Option TV → FH → Prop} {sh : Nat → Option Shp} {M : FM}
theorem fl59_X {n m li : Nat} {fr : Int} {w : Nat → Int} {rk : List Int} {v0 : Nat → Int} (hn : n ≤ 288) (hfr : 0 ≤ fr ∧ fr + n ≤ 339) (hli : 1 ≤ li ∧ li ≤ 15) (hm : rk.length = m) (hm2 : 2 ≤ m ∧ m ≤ 288) (hbig : (m - 1) / 2 ^ (li - 1) ≤ 1) (hnd : rk.Nodup) (hx : ∀ x ∈ rk, 0 ≤ x ∧ x < n) (hc : ∀ (a : Nat) (x : Int), rk[a]? = some x → M 193 (fr + x) = w a) (hw : ∀ i : Nat, i < m → 0 ≤ w i ∧ w i ≤ 100000)
    (k : ∀ M2 : FM, flK M2 M → (∀ x : Int, (x < fr ∨ fr + n ≤ x) → M2 194 x = M 194 x) → lnM' M2 fr rk n (fun a => v0 a + plG w m li (2 * m - 2) a) → K none (sh, M2, nx, zl)) : ∀ (G lv : Nat) (lvi many : Int) (Mz : FM) (y7 y8 y9 y10 y11 : Option TV), G + lv = li → lvi = lv → many = (pvL w m lv).length → flK Mz M → Mz 194 = M 194 → rkV (Mz 196) rk → (∀ q : Nat, q < (pvL w m lv).length → Mz 198 q = wgt (pvL w m lv) q) → (∀ l2 : Nat, l2 < lv → ∀ q : Nat, q < (pmL w m l2).length → Mz 199 (600 * (l2 : Int) + q) = itm (pmL w m l2) q) → lnM' Mz fr rk n v0 → fm_X (d + li) kd284 59 [some (fx 168), some (ti fr), some (ti n), some (ti li), some (ti m), some (ti many), some (ti lvi), y7, y8, y9, y10, y11] [] (sh, Mz, nx, zl) K := by
  intro G
  induction G with
  | zero =>
    intro lv lvi many Mz y7 y8 y9 y10 y11 h1 h2 h3 F1 e194 hrk hpv hit hv
    refine s284_59 (d + li) K _ _ _ ?_
    refine ⟨by omega, fun _ => ?_, fun z => by omega⟩
    have en := pm_enough (w := w) (m := m) (by omega) (li - 1)
    have L312 : ∀ (G i : Nat) (ii : Int) (M1 : FM), ((2 * m - 2 : Int) - ii).toNat < G → ii = i → i ≤ 2 * m - 2 → flK M1 M → (∀ x : Int, (x < fr ∨ fr + n ≤ x) → M1 194 x = M 194 x) → M1 196 = Mz 196 → M1 199 = Mz 199 → lnM' M1 fr rk n (fun a => v0 a + tiS w m (li - 1) i a) → fm_X (d + li) kd284 312 [some (fx 168), some (ti fr), some (ti n), some (ti li), some (ti m), some (ti many), some (ti ii), y7, y8, y9, y10, y11] [] (sh, M1, nx, zl) K := by
      intro G
      induction G with
      | zero => intro i ii M1 q; omega
      | succ G ih =>
        intro i ii M1 q1 q2 q3 FF GG e196 e199 hv1
        refine s284_312 (d + li) K _ _ _ ?_
        refine ⟨by omega, fun u => ?_, fun u => ?_⟩
        · have ei : i = 2 * m - 2 := by omega
          refine k M1 FF GG ?_
          have : (fun a => v0 a + plG w m li (2 * m - 2) a) = fun a => v0 a + tiS w m (li - 1) i a := by
            funext a
            rw [ti_pl (li - 1) i a (by omega), ei, show li - 1 + 1 = li by omega]
          rw [this]
          exact hv1
        · refine ⟨by omega, fun z => by omega, fun _ => ?_⟩
          have T := fun (y z : Int) (ey : y = (li - 1 : Nat)) (ez : z = i) (K : Option TV → FH → Prop) (kk : _) => takeItem_Y (d := d) (nx := nx) (zl := zl) (sh := sh) (w := w) hfr hnd hm (by omega) hx (li - 1) i M1 K (fun a => v0 a + tiS w m (li - 1) i a) (by omega) (by omega) (by rw [e196]; exact hrk) (fun l2 h2 q hq => by rw [e199]; exact hit l2 (by omega) q hq) hv1 kk
          rw [show d + (li - 1) + 1 = d + li by omega] at T
          have T2 : ∀ (y z : Int) (ey : y = (li - 1 : Nat)) (ez : z = i) (K : Option TV → FH → Prop), (∀ M2 : FM, (∀ x : Nat, x ≠ 194 → M2 x = M1 x) → (∀ x : Int, (x < fr ∨ fr + n ≤ x) → M2 194 x = M1 194 x) → lnM' M2 fr rk n (fun a => v0 a + tiS w m (li - 1) i a + tiI w m (li - 1) i a) → K none (sh, M2, nx, zl)) → fm_Y (d + li) 286 [.ref 168, .int (Int32.ofInt fr), .int (Int32.ofInt y), .int (Int32.ofInt z)] (sh, M1, nx, zl) K := by
            intro y z ey ez K kk
            have := T y z ey ez K kk
            rw [← ey, ← ez] at this
            exact this
          refine T2 _ _ (by omega) q2 _ (fun M2 F2 G2 hv2 => ?_)
          refine ih (i + 1) (ii + 1) M2 (by omega) (by omega) (by omega) (fun x x1 x2 x3 x4 x5 => by rw [F2 x x1]; exact FF x x1 x2 x3 x4 x5) (fun x hx => by rw [G2 x hx]; exact GG x hx) (by rw [F2 196 (by omega)]; exact e196) (by rw [F2 199 (by omega)]; exact e199) ?_
          have : (fun a => v0 a + tiS w m (li - 1) (i + 1) a) = fun a => v0 a + tiS w m (li - 1) i a + tiI w m (li - 1) i a := by
            funext a
            have : tiS w m (li - 1) (i + 1) a = tiS w m (li - 1) i a + tiI w m (li - 1) i a := rfl
            omega
          rw [this]
          exact hv2
    refine L312 (2 * m) 0 0 Mz (by omega) rfl (by omega) F1 (fun x _ => by rw [e194]) rfl rfl ?_
    have : (fun a => v0 a + tiS w m (li - 1) 0 a) = v0 := by
      funext a
      have : tiS w m (li - 1) 0 a = 0 := rfl
      omega
    rw [this]
    exact hv
  | succ G ihG =>
    intro lv lvi many Mz y7 y8 y9 y10 y11 h1 h2 h3 F1 e194 hrk hpv hit hv
    have hpl := pvL_len (w := w) (m := m) lv
    have pb := pv_b (m := m) (W := 100000) (by omega) hw lv (by omega)
    obtain ⟨L, gL⟩ : ∃ L : List (Bool × Int), L = pmL w m lv := ⟨_, rfl⟩
    have eL := pmL_pv w m lv
    obtain ⟨PV, gPV⟩ : ∃ PV : List (Bool × Int), PV = pvL w m lv := ⟨_, rfl⟩
    rw [← gPV] at h3 hpv hpl pb eL
    rw [← gL] at eL
    obtain ⟨ps, gps⟩ : ∃ ps : Nat, ps = PV.length / 2 := ⟨_, rfl⟩
    rw [← gps] at eL
    have lenL : L.length = m + ps := by rw [eL, mgG_len]
    have ihL := ihG (lv + 1)
    have epv : pvL w m (lv + 1) = L := gL.symm
    rw [epv] at ihL
    have e193 : Mz 193 = M 193 := F1 193 (by omega) (by omega) (by omega) (by omega) (by omega)
    refine s284_59 (d + li) K _ _ _ ?_
    refine ⟨by omega, fun z => by omega, fun _ => ?_⟩
    refine ⟨by omega, fun z => by omega, fun _ => ?_⟩
    refine ⟨by omega, ?_⟩
    -- the next list
    have L86 : ∀ (g a b : Nat) (pre : List (Bool × Int)) (M1 : FM) (ai bi i : Int) (y10 y11 : Option TV), g + a + b = m + ps → a ≤ m → b ≤ ps → pre.length = a + b → nF pre = a → ai = a → bi = b → i = (a : Int) + b → (∀ x : Nat, x ≠ 197 → x ≠ 199 → M1 x = Mz x) → (∀ q : Nat, q < pre.length → M1 197 q = wgt pre q) → (∀ q : Nat, q < pre.length → M1 199 (600 * (lv : Int) + q) = itm L q) → (∀ q : Int, q < 600 * (lv : Int) → M1 199 q = Mz 199 q) → L = pre ++ mgG w (prW PV) m ps g a b → fm_X (d + li) kd284 86 [some (fx 168), some (ti fr), some (ti n), some (ti li), some (ti m), some (ti i), some (ti lvi), some (ti ps), some (ti ai), some (ti bi), y10, y11] [] (sh, M1, nx, zl) K := by
      intro g
      induction g with
      | zero =>
        intro a b pre M1 ai bi i y10 y11 q1 q2 q3 q4 q5 q6 q7 q8 FF hwt hi hk hL
        have e0 : mgG w (prW PV) m ps 0 a b = [] := rfl
        rw [e0, List.append_nil] at hL
        refine s284_86 (d + li) K _ _ _ ?_
        refine ⟨by omega, fun z => by omega, fun _ => ?_⟩
        refine ⟨by omega, fun _ => ?_, fun z => by omega⟩
        -- copied
        have L276 : ∀ (N j : Nat) (ji : Int) (M2 : FM), (i - ji).toNat < N → ji = j → j ≤ pre.length → (∀ x : Nat, x ≠ 198 → M2 x = M1 x) → (∀ q : Nat, q < j → M2 198 q = wgt pre q) → fm_X (d + li) kd284 276 [some (fx 168), some (ti fr), some (ti n), some (ti li), some (ti m), some (ti i), some (ti lvi), some (ti ps), some (ti ai), some (ti bi), some (ti ji), y11] [] (sh, M2, nx, zl) K := by
          intro N
          induction N with
          | zero => intro j ji M2 q; omega
          | succ N ih =>
            intro j ji M2 p1 p2 p3 F2 hc2
            refine s284_276 (d + li) K _ _ _ ?_
            refine ⟨by omega, fun u => ?_, fun u => ?_⟩
            · have ej : j = pre.length := by omega
              refine ihL (lvi + 1) i M2 _ _ _ _ _ (by omega) (by omega) (by rw [hL]; omega) (fun x x1 x2 x3 x4 x5 => by rw [F2 x x4, FF x x3 x5]; exact F1 x x1 x2 x3 x4 x5) (by rw [F2 194 (by omega), FF 194 (by omega) (by omega)]; exact e194) (by rw [F2 196 (by omega), FF 196 (by omega) (by omega)]; exact hrk) (fun q hq => by rw [hL] at hq ⊢; exact hc2 q (by omega)) (fun l2 h2' q hq => ?_) ?_
              · rw [F2 199 (by omega)]
                by_cases e : l2 = lv
                · rw [e, ← gL]
                  rw [e, ← gL] at hq
                  exact hi q (by rw [← hL]; exact hq)
                · have := (pmL_len (w := w) (m := m) l2).2
                  rw [hk _ (by omega)]
                  exact hit l2 (by omega) q hq
              · unfold lnM' at *
                rw [F2 194 (by omega), FF 194 (by omega) (by omega)]
                exact hv
            · refine ⟨by omega, ?_⟩
              refine ⟨by omega, ?_⟩
              obtain ⟨P, gP⟩ : ∃ P : FM, P = pq M2 198 ji (M2 197 ji) := ⟨_, rfl⟩
              have T1 : (o_inc 10 1 (fW (d + li) kd284 K 276) : FC) [some (fx 168), some (ti fr), some (ti n), some (ti li), some (ti m), some (ti i), some (ti lvi), some (ti ps), some (ti ai), some (ti bi), some (ti ji), y11] [] (sh, P, nx, zl) := by
                refine ih (j + 1) (ji + 1) P (by omega) (by omega) (by omega) (fun x hx => by rw [gP, pq_o _ _ _ hx]; exact F2 x hx) (fun q hq => ?_)
                rw [gP]
                by_cases e : (q : Int) = ji
                · rw [e, pq_at, F2 197 (by omega), ← e]
                  exact hwt q (by omega)
                · rw [pq_ne _ _ _ _ e]
                  exact hc2 q (by omega)
              rw [gP] at T1
              exact T1
        exact L276 (pre.length + 1) 0 0 M1 (by omega) rfl (by omega) (fun _ _ => rfl) (fun q hq => absurd hq (by omega))
      | succ g ih =>
        intro a b pre M1 ai bi i y10 y11 q1 q2 q3 q4 q5 q6 q7 q8 FF hwt hi hk hL
        have e0 : mgG w (prW PV) m ps (g + 1) a b = if a < m ∧ (b = ps ∨ w a ≤ prW PV b) then (false, w a) :: mgG w (prW PV) m ps g (a + 1) b else (true, prW PV b) :: mgG w (prW PV) m ps g a (b + 1) := rfl
        rw [e0] at hL
        have e196 : M1 196 = Mz 196 := FF 196 (by omega) (by omega)
        have e193' : M1 193 = M 193 := (FF 193 (by omega) (by omega)).trans e193
        have CN : a < m → ∃ x : Int, M1 196 ai = x ∧ (0 ≤ x ∧ x < n) ∧ M1 193 (fr + x) = w a := by
          intro ha
          obtain ⟨x, hax⟩ : ∃ x : Int, rk[a]? = some x := ⟨_, List.getElem?_eq_getElem (by omega)⟩
          refine ⟨x, ?_, hx x (List.mem_of_getElem? hax), ?_⟩
          · rw [e196, q6]
            exact hrk a x hax
          · rw [e193']
            exact hc a x hax
        -- an item is put
        have PUT : ∀ (z bo : Int) (q : Bool × Int) (a2 b2 : Nat), (z = 1 ∧ a < m ∧ q = (false, w a) ∧ a2 = a + 1 ∧ b2 = b ∨ z = 0 ∧ q = (true, bo) ∧ a2 = a ∧ b2 = b + 1 ∧ b < ps) → L = pre ++ q :: mgG w (prW PV) m ps g a2 b2 → ∀ y11 : Option TV, b284_172 (d + li) (fW (d + li) kd284 K) K [some (fx 168), some (ti fr), some (ti n), some (ti li), some (ti m), some (ti i), some (ti lvi), some (ti ps), some (ti ai), some (ti bi), some (ti bo), y11] [ti z] (sh, M1, nx, zl) := by
          intro z bo q a2 b2 hz hL2 y11
          have hq2 : itm L pre.length = if q.1 then -1 - 2 * ((pre.length : Int) - nF pre) else nF pre := by
            rw [hL2]
            exact itm_pre
          have hqf : nF (pre ++ [q]) = a2 := by
            rw [nF_add, q5]
            rcases hz with ⟨-, -, z2, z3, -⟩ | ⟨-, z2, z3, -⟩
            · rw [z2, z3]
              rfl
            · rw [z2, z3]
              rfl
          -- behind the weight
          have ST : ∀ v : Int, v = q.2 → b284_204 (d + li) (fW (d + li) kd284 K) K [some (fx 168), some (ti fr), some (ti n), some (ti li), some (ti m), some (ti i), some (ti lvi), some (ti ps), some (ti ai), some (ti bi), some (ti bo), some (ti z)] [ti v, ti i, fx 197] (sh, M1, nx, zl) := by
            intro v hv2
            refine ⟨by omega, ?_⟩
            obtain ⟨P1, g1⟩ : ∃ P1 : FM, P1 = pq M1 197 i v := ⟨_, rfl⟩
            have SI : ∀ it : Int, it = itm L pre.length → b284_234 (d + li) (fW (d + li) kd284 K) K [some (fx 168), some (ti fr), some (ti n), some (ti li), some (ti m), some (ti i), some (ti lvi), some (ti ps), some (ti ai), some (ti bi), some (ti bo), some (ti z)] [ti it, ti (600 * lvi + i), fx 199] (sh, P1, nx, zl) := by
              intro it hitm
              refine ⟨by omega, ?_⟩
              obtain ⟨P2, g2⟩ : ∃ P2 : FM, P2 = pq P1 199 (600 * lvi + i) it := ⟨_, rfl⟩
              have h199 : ∀ t : Int, P2 199 t = if t = 600 * lvi + i then it else M1 199 t := by
                intro t
                rw [g2]
                by_cases e : t = 600 * lvi + i
                · rw [e, pq_at, if_pos rfl]
                · rw [pq_ne _ _ _ _ e, if_neg e, g1, pq_o _ _ _ (by omega)]
              have h197 : ∀ t : Int, P2 197 t = if t = i then v else M1 197 t := by
                intro t
                rw [g2, pq_o _ _ _ (by omega), g1]
                by_cases e : t = i
                · rw [e, pq_at, if_pos rfl]
                · rw [pq_ne _ _ _ _ e, if_neg e]
              have NX : ∀ a3 b3 : Int, a3 = a2 → b3 = b2 → fm_X (d + li) kd284 86 [some (fx 168), some (ti fr), some (ti n), some (ti li), some (ti m), some (ti (i + 1)), some (ti lvi), some (ti ps), some (ti a3), some (ti b3), some (ti bo), some (ti z)] [] (sh, P2, nx, zl) K := by
                intro a3 b3 ea eb
                refine ih a2 b2 (pre ++ [q]) P2 a3 b3 (i + 1) _ _ (by omega) (by omega) (by omega) (by simp only [List.length_append, List.length_cons, List.length_nil]; omega) hqf ea eb (by omega) (fun x x1 x2 => by rw [g2, pq_o _ _ _ x2, g1, pq_o _ _ _ x1]; exact FF x x1 x2) (fun t ht => ?_) (fun t ht => ?_) (fun t ht => ?_) (by rw [hL2, List.append_assoc]; rfl)
                · simp only [List.length_append, List.length_cons, List.length_nil] at ht
                  have ew := wgt_pre (pre := pre) (r := []) (q := q) (i := t)
                  by_cases e : t < pre.length
                  · rw [if_pos e] at ew
                    rw [h197, if_neg (by omega), hwt t e]
                    exact ew.symm
                  · have e2 : t = pre.length := by omega
                    rw [if_neg e, if_pos e2] at ew
                    rw [h197, if_pos (by omega), hv2]
                    exact ew.symm
                · simp only [List.length_append, List.length_cons, List.length_nil] at ht
                  by_cases e : t < pre.length
                  · rw [h199, if_neg (by omega)]
                    exact hi t e
                  · have e2 : t = pre.length := by omega
                    rw [h199, if_pos (by omega), hitm, e2]
                · rw [h199, if_neg (by omega)]
                  exact hk t ht
              have T2 : (o_il 11 (o_if .eq (o_il 8 (b284_249 (d + li) (fW (d + li) kd284 K) K)) (o_il 8 (o_ic 1 (o_iadd (b284_249 (d + li) (fW (d + li) kd284 K) K))))) : FC) [some (fx 168), some (ti fr), some (ti n), some (ti li), some (ti m), some (ti i), some (ti lvi), some (ti ps), some (ti ai), some (ti bi), some (ti bo), some (ti z)] [] (sh, P2, nx, zl) := by
                refine ⟨by omega, fun u => ?_, fun u => ?_⟩
                · refine ⟨by omega, fun _ => ?_, fun v => by omega⟩
                  exact NX ai (bi + 1) (by omega) (by omega)
                · refine ⟨by omega, fun v => by omega, fun _ => ?_⟩
                  exact NX (ai + 1) bi (by omega) (by omega)
              rw [g2] at T2
              exact T2
            have T1 : (o_al 0 (o_get 12 40 40 (o_ic 600 (o_il 6 (o_imul (o_il 5 (o_iadd (o_il 11 (o_if .eq (o_ic (-1) (o_ic 2 (o_il 9 (o_imul (o_isub (b284_234 (d + li) (fW (d + li) kd284 K) K)))))) (o_il 8 (b284_234 (d + li) (fW (d + li) kd284 K) K)))))))))) : FC) [some (fx 168), some (ti fr), some (ti n), some (ti li), some (ti m), some (ti i), some (ti lvi), some (ti ps), some (ti ai), some (ti bi), some (ti bo), some (ti z)] [] (sh, P1, nx, zl) := by
              refine ⟨by omega, fun u => ?_, fun u => ?_⟩
              · refine SI _ ?_
                rw [hq2]
                rcases hz with ⟨z0, -⟩ | ⟨-, z2, -⟩
                · omega
                · rw [z2]
                  show _ = -1 - 2 * ((pre.length : Int) - nF pre)
                  omega
              · refine SI _ ?_
                rw [hq2]
                rcases hz with ⟨-, -, z2, -⟩ | ⟨z0, -⟩
                · rw [z2]
                  show _ = (nF pre : Int)
                  omega
                · omega
            rw [g1] at T1
            exact T1
          refine ⟨by omega, fun u => ?_, fun u => ?_⟩
          · refine ST _ ?_
            rcases hz with ⟨z0, -⟩ | ⟨-, z2, -⟩
            · omega
            · rw [z2]
          · have ha : a < m := by omega
            obtain ⟨x, x1, x2, x3⟩ := CN ha
            refine ⟨by omega, ?_⟩
            rw [x1]
            refine ⟨by omega, ?_⟩
            rw [x3]
            refine ST _ ?_
            rcases hz with ⟨-, -, z2, -⟩ | ⟨z0, -⟩
            · rw [z2]
            · omega
        -- which one
        have B132 : ∀ bo : Int, (b < ps → bo = prW PV b ∧ 0 ≤ bo ∧ bo ≤ 2000000000) → ∀ y10 : Option TV, b284_132 (d + li) (fW (d + li) kd284 K) K [some (fx 168), some (ti fr), some (ti n), some (ti li), some (ti m), some (ti i), some (ti lvi), some (ti ps), some (ti ai), some (ti bi), y10, y11] [ti bo] (sh, M1, nx, zl) := by
          intro bo b1 y10
          refine ⟨by omega, fun u => ?_, fun u => ?_⟩
          · rw [if_pos (by omega)] at hL
            exact PUT 1 bo _ (a + 1) b (Or.inl ⟨rfl, by omega, rfl, rfl, rfl⟩) hL y11
          · obtain ⟨b2, b3, b4⟩ := b1 (by omega)
            refine ⟨by omega, fun v => ?_, fun v => ?_⟩
            · rw [if_neg (by omega)] at hL
              exact PUT 0 bo _ a (b + 1) (Or.inr ⟨rfl, rfl, rfl, rfl, by omega⟩) (by rw [b2]; exact hL) y11
            · obtain ⟨x, x1, x2, x3⟩ := CN (by omega)
              have wa := hw a (by omega)
              refine ⟨by omega, ?_⟩
              rw [x1]
              refine ⟨by omega, ?_⟩
              rw [x3]
              refine ⟨by omega, fun v => ?_, fun v => ?_⟩
              · rw [if_neg (by omega)] at hL
                exact PUT 0 bo _ a (b + 1) (Or.inr ⟨rfl, rfl, rfl, rfl, by omega⟩) (by rw [b2]; exact hL) y11
              · rw [if_pos (by omega)] at hL
                exact PUT 1 bo _ (a + 1) b (Or.inl ⟨rfl, by omega, rfl, rfl, rfl⟩) hL y11
        have B100 : b284_100 (d + li) (fW (d + li) kd284 K) K [some (fx 168), some (ti fr), some (ti n), some (ti li), some (ti m), some (ti i), some (ti lvi), some (ti ps), some (ti ai), some (ti bi), y10, y11] [] (sh, M1, nx, zl) := by
          refine ⟨by omega, fun u => ?_, fun u => ?_⟩
          · exact B132 _ (fun z => by omega) _
          · have p1 := hpv (2 * b) (by omega)
            have p2 := hpv (2 * b + 1) (by omega)
            have w1 := wgt_b pb (i := 2 * b) (by omega)
            have w2 := wgt_b pb (i := 2 * b + 1) (by omega)
            have e198 : M1 198 = Mz 198 := FF 198 (by omega) (by omega)
            have e1 : M1 198 (2 * bi) = wgt PV (2 * b) := by
              rw [← p1, e198]
              congr 1
              omega
            have e2 : M1 198 (2 * bi + 1) = wgt PV (2 * b + 1) := by
              rw [← p2, e198]
              congr 1
              omega
            refine ⟨by omega, ?_⟩
            refine ⟨by omega, ?_⟩
            rw [e1, e2]
            exact B132 _ (fun _ => ⟨rfl, by unfold prW at *; omega, by unfold prW at *; omega⟩) _
        refine s284_86 (d + li) K _ _ _ ?_
        refine ⟨by omega, fun u => B100, fun u => ?_⟩
        exact ⟨by omega, fun z => by omega, fun _ => B100⟩
    have T := L86 (m + ps) 0 0 [] Mz 0 0 0 y10 y11 (by omega) (by omega) (by omega) rfl rfl rfl rfl rfl (fun _ _ _ => rfl) (fun q hq => by cases hq) (fun q hq => by cases hq) (fun _ _ => rfl) (by rw [eL]; rfl)
    rw [show ((ps : Nat) : Int) = many / 2 by omega] at T
    exact T
theorem findLengths_Y {n li : Nat} {fr : Int} {c : Int → Int} (hn : n ≤ 288) (hfr : 0 ≤ fr ∧ fr + n ≤ 339) (hli : 1 ≤ li ∧ li ≤ 15) (hbig : (n - 1) / 2 ^ (li - 1) ≤ 1) (hc : ∀ s : Int, 0 ≤ s → s < n → M 193 (fr + s) = c s ∧ 0 ≤ c s ∧ c s ≤ 100000)
    (k : ∀ M2 : FM, flK M2 M → (∀ x : Int, (x < fr ∨ fr + n ≤ x) → M2 194 x = M 194 x) → lnM' M2 fr (rkG c n) n (vLn c n li) → K none (sh, M2, nx, zl)) : fm_Y (d + li + 1) 284 [.ref 168, .int (Int32.ofInt fr), .int (Int32.ofInt n), .int (Int32.ofInt li)] (sh, M, nx, zl) K := by
  obtain ⟨rl, rs, rb⟩ := rkG_p (c := c) n
  have hnd := rkG_nd (c := c) n
  refine m284 [fx 168, ti fr, ti n, ti li] ?_
  have dd : ∃ d', d + li = d' + 1 := ⟨d + li - 1, by omega⟩
  obtain ⟨d', ed⟩ := dd
  have RK := fun (K : Option TV → FH → Prop) kk => (rankM_Y (d := d') (K := K) (nx := nx) (zl := zl) (sh := sh) hn hfr hc kk)
  rw [← ed] at RK
  refine RK _ (fun M1 F1 hrk => ?_)
  obtain ⟨rk, grk⟩ : ∃ rk : List Int, rk = rkG c n := ⟨_, rfl⟩
  obtain ⟨m, hm⟩ : ∃ m : Nat, rk.length = m := ⟨_, rfl⟩
  rw [← grk] at k rl rs rb hnd hrk
  rw [← grk]
  rw [hm] at rl ⊢
  have evl : ∀ a : Nat, vLn c n li a = if m = 1 then 1 else plG (wOf c rk) m li (2 * m - 2) a := by
    intro a
    unfold vLn
    rw [← grk, hm]
  -- behind the zeros
  have B53 : ∀ (M2 : FM) (si : Int), flK M2 M → (∀ x : Int, (x < fr ∨ fr + n ≤ x) → M2 194 x = M 194 x) → rkV (M2 196) rk → lnM' M2 fr rk n (fun _ => if m = 1 then 1 else 0) → b284_53 (d + li) (fW (d + li) kd284 K) K [some (fx 168), some (ti fr), some (ti n), some (ti li), some (ti m), some (ti si), none, none, none, none, none, none] [] (sh, M2, nx, zl) := by
    intro M2 si F2 G2 hr2 hv
    show fm_X (d + li) kd284 59 [some (fx 168), some (ti fr), some (ti n), some (ti li), some (ti m), some (ti 0), some (ti 0), none, none, none, none, none] [] (sh, M2, nx, zl) K
    by_cases c2 : 2 ≤ m
    · have big2 : (m - 1) / 2 ^ (li - 1) ≤ 1 := Nat.le_trans (Nat.div_le_div_right (by omega)) hbig
      have e193 : M2 193 = M 193 := F2 193 (by omega) (by omega) (by omega) (by omega) (by omega)
      refine fl59_X (M := M2) (w := wOf c rk) (rk := rk) (v0 := fun _ => if m = 1 then 1 else 0) hn hfr hli hm (by omega) big2 hnd (fun x hx => (rb x hx).1) (fun a x hax => ?_) (fun i hi => ?_) (fun M3 F3 G3 hv3 => ?_) li 0 0 0 M2 none none none none none (by omega) rfl rfl (fun _ _ _ _ _ _ => rfl) rfl hr2 (fun q hq => by cases hq) (fun l2 h2 => by omega) hv
      · have xr := rb x (List.mem_of_getElem? hax)
        rw [e193, (hc x xr.1.1 xr.1.2).1]
        unfold wOf
        rw [hax]
      · obtain ⟨x, hax⟩ : ∃ x : Int, rk[i]? = some x := ⟨_, List.getElem?_eq_getElem (by omega)⟩
        have xr := rb x (List.mem_of_getElem? hax)
        have := (hc x xr.1.1 xr.1.2).2
        unfold wOf
        rw [hax]
        exact this
      · refine k M3 (fun x x1 x2 x3 x4 x5 => by rw [F3 x x1 x2 x3 x4 x5]; exact F2 x x1 x2 x3 x4 x5) (fun x hx => by rw [G3 x hx]; exact G2 x hx) ?_
        have : vLn c n li = fun a => (if m = 1 then 1 else 0) + plG (wOf c rk) m li (2 * m - 2) a := by
          funext a
          rw [evl a, if_neg (by omega), if_neg (by omega)]
          omega
        rw [this]
        exact hv3
    · refine s284_59 (d + li) K _ _ _ ?_
      have K2 : K none (sh, M2, nx, zl) := by
        refine k M2 F2 G2 ⟨fun a x hax => ?_, hv.2⟩
        have ha : a < m := by
          rw [← hm]
          exact (List.getElem?_eq_some_iff.1 hax).1
        have := hv.1 a x hax
        rw [evl a, if_pos (by omega)]
        rw [if_pos (by omega)] at this
        exact this
      have B309 : b284_309 (d + li) (fW (d + li) kd284 K) K [some (fx 168), some (ti fr), some (ti n), some (ti li), some (ti m), some (ti 0), some (ti 0), none, none, none, none, none] [] (sh, M2, nx, zl) := by
        show fm_X (d + li) kd284 312 [some (fx 168), some (ti fr), some (ti n), some (ti li), some (ti m), some (ti 0), some (ti 0), none, none, none, none, none] [] (sh, M2, nx, zl) K
        refine s284_312 (d + li) K _ _ _ ?_
        refine ⟨by omega, fun u => K2, fun u => ?_⟩
        exact ⟨by omega, fun _ => K2, fun z => by omega⟩
      exact ⟨by omega, fun u => B309, fun _ => ⟨by omega, fun _ => B309, fun z => by omega⟩⟩
  have L11 : ∀ (G : Nat) (si : Int) (M2 : FM), ((n : Int) - si).toNat < G → 0 ≤ si → si ≤ n → (∀ x : Nat, x ≠ 194 → x ≠ 196 → M2 x = M x) → M2 196 = M1 196 → (∀ x : Int, (x < fr ∨ fr + n ≤ x) → M2 194 x = M 194 x) → (∀ x : Int, 0 ≤ x → x < si → M2 194 (fr + x) = 0) → fm_X (d + li) kd284 11 [some (fx 168), some (ti fr), some (ti n), some (ti li), some (ti m), some (ti si), none, none, none, none, none, none] [] (sh, M2, nx, zl) K := by
    intro G
    induction G with
    | zero => intro si M2 q; omega
    | succ G ih =>
      intro si M2 q1 q2 q3 F2 e2 G2 hz
      refine s284_11 (d + li) K _ _ _ ?_
      refine ⟨by omega, fun u => ?_, fun u => ?_⟩
      · have FF : flK M2 M := fun x x1 x2 _ _ _ => F2 x x1 x2
        refine ⟨by omega, fun v => ?_, fun v => ?_⟩
        · refine B53 M2 si FF G2 (by rw [e2]; exact hrk) ⟨fun a x hax => ?_, fun x x0 x1 _ => hz x x0 (by omega)⟩
          have xr := rb x (List.mem_of_getElem? hax)
          dsimp only
          rw [hz x (by omega) (by omega), if_neg (by omega)]
        · obtain ⟨x, hax⟩ : ∃ x : Int, rk[0]? = some x := ⟨_, List.getElem?_eq_getElem (by omega)⟩
          have xr := rb x (List.mem_of_getElem? hax)
          have ex : M2 196 0 = x := by
            rw [e2]
            exact hrk 0 x hax
          refine ⟨by omega, ?_⟩
          rw [ex]
          refine ⟨by omega, ?_⟩
          obtain ⟨P, gP⟩ : ∃ P : FM, P = pq M2 194 (fr + x) 1 := ⟨_, rfl⟩
          have T := B53 P si (fun y y1 y2 y3 y4 y5 => by rw [gP, pq_o _ _ _ y1]; exact F2 y y1 y2) (fun y hy => by rw [gP, pq_ne _ _ _ _ (by omega)]; exact G2 y hy) (by rw [gP, pq_o _ _ _ (by omega), e2]; exact hrk) ⟨fun a y hay => ?_, fun y y0 y1 hy => ?_⟩
          · rw [gP] at T
            exact T
          · have ha : a < m := by
              rw [← hm]
              exact (List.getElem?_eq_some_iff.1 hay).1
            have ea : a = 0 := by omega
            rw [ea, hax] at hay
            injection hay with exy
            dsimp only
            rw [gP, ← exy, pq_at, if_pos (by omega)]
          · dsimp only
            rw [gP, pq_ne _ _ _ _ (fun z => hy (by rw [show y = x by omega]; exact List.mem_of_getElem? hax))]
            exact hz y y0 (by omega)
      · refine ⟨by omega, ?_⟩
        obtain ⟨P, gP⟩ : ∃ P : FM, P = pq M2 194 (fr + si) 0 := ⟨_, rfl⟩
        have T1 : (o_inc 5 1 (fW (d + li) kd284 K 11) : FC) [some (fx 168), some (ti fr), some (ti n), some (ti li), some (ti m), some (ti si), none, none, none, none, none, none] [] (sh, P, nx, zl) := by
          refine ih (si + 1) P (by omega) (by omega) (by omega) (fun x x1 x2 => by rw [gP, pq_o _ _ _ x1]; exact F2 x x1 x2) (by rw [gP, pq_o _ _ _ (by omega)]; exact e2) (fun x hx => by rw [gP, pq_ne _ _ _ _ (by omega)]; exact G2 x hx) (fun x x0 x1 => ?_)
          rw [gP]
          by_cases e : x = si
          · rw [e, pq_at]
          · rw [pq_ne _ _ _ _ (by omega)]
            exact hz x x0 (by omega)
        rw [gP] at T1
        exact T1
  exact L11 (n + 1) 0 M1 (by omega) (by omega) (by omega) (fun x _ x2 => F1 x x2) rfl (fun x _ => by rw [F1 194 (by omega)]) (fun x x0 x1 => by omega)
end MLENS
