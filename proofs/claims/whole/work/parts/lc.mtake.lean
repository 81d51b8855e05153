/-! PACKING: lists taken; the reference takes the same -/
def flG (L : List (Bool × Int)) (i : Nat) : Bool := match L[i]? with
  | none => false
  | some q => q.1
def itm (L : List (Bool × Int)) (i : Nat) : Int := if flG L i then -1 - 2 * ((i : Int) - nSg L i) else nSg L i
/-- how often the symbol of rank a is taken with the item i of the list l -/
def tiI (w : Nat → Int) (m : Nat) : Nat → Nat → Nat → Int
  | 0, i, a => if nSg (pmL w m 0) i = a then 1 else 0
  | l + 1, i, a => if flG (pmL w m (l + 1)) i then tiI w m l (2 * (i - nSg (pmL w m (l + 1)) i)) a + tiI w m l (2 * (i - nSg (pmL w m (l + 1)) i) + 1) a else if nSg (pmL w m (l + 1)) i = a then 1 else 0
def tiS (w : Nat → Int) (m l : Nat) : Nat → Nat → Int
  | 0, _ => 0
  | t + 1, a => tiS w m l t a + tiI w m l t a
theorem mg0_f {w p : Nat → Int} {m : Nat} : ∀ (g a : Nat), g + a = m → ∀ q ∈ mgG w p m 0 g a 0, q.1 = false
  | 0, _, _, q, h => by cases h
  | g + 1, a, h1, q, h => by
    have e : mgG w p m 0 (g + 1) a 0 = if a < m ∧ ((0 : Nat) = 0 ∨ w a ≤ p 0) then (false, w a) :: mgG w p m 0 g (a + 1) 0 else (true, p 0) :: mgG w p m 0 g a 1 := rfl
    rw [e, if_pos ⟨by omega, Or.inl rfl⟩] at h
    rcases List.mem_cons.1 h with y | y
    · rw [y]
    · exact mg0_f g (a + 1) (by omega) q y
theorem pm0_f {w : Nat → Int} {m i : Nat} : flG (pmL w m 0) i = false := by
  unfold flG
  cases h : (pmL w m 0)[i]? with
  | none => rfl
  | some q => exact mg0_f m 0 (by omega) q (List.mem_of_getElem? h)
theorem nSg_fl {L : List (Bool × Int)} {t : Nat} (h : t < L.length) : nSg L (t + 1) = nSg L t + (if flG L t then 0 else 1) := by
  obtain ⟨q, hq⟩ : ∃ q : Bool × Int, L[t]? = some q := ⟨_, List.getElem?_eq_getElem h⟩
  have e : flG L t = q.1 := by
    unfold flG
    rw [hq]
  rw [nSg_step hq, e]
/-- both ways take the same -/
theorem ti_pl {w : Nat → Int} {m : Nat} : ∀ (l t a : Nat), t ≤ (pmL w m l).length → tiS w m l t a = plG w m (l + 1) t a
  | 0, 0, a, _ => by
    show (0 : Int) = (if a < nSg (pmL w m 0) 0 then 1 else 0) + 0
    have : nSg (pmL w m 0) 0 = 0 := by simp [nSg, nF]
    rw [this, if_neg (by omega)]
    rfl
  | 0, t + 1, a, h => by
    have ih := ti_pl (w := w) (m := m) 0 t a (by omega)
    have st := nSg_fl (L := pmL w m 0) (t := t) (by omega)
    rw [pm0_f] at st
    have e1 : plG w m 1 t a = (if a < nSg (pmL w m 0) t then 1 else 0) + 0 := rfl
    have e2 : plG w m 1 (t + 1) a = (if a < nSg (pmL w m 0) (t + 1) then 1 else 0) + 0 := rfl
    have e3 : tiI w m 0 t a = if nSg (pmL w m 0) t = a then 1 else 0 := rfl
    have e4 : tiS w m 0 (t + 1) a = tiS w m 0 t a + tiI w m 0 t a := rfl
    have st' : nSg (pmL w m 0) (t + 1) = nSg (pmL w m 0) t + 1 := st
    show tiS w m 0 (t + 1) a = plG w m 1 (t + 1) a
    rw [e4, ih, e3]
    show plG w m 1 t a + _ = _
    rw [e1, e2, st']
    by_cases c : a < nSg (pmL w m 0) t
    · rw [if_pos c, if_neg (by omega), if_pos (by omega)]
      rfl
    · by_cases c2 : nSg (pmL w m 0) t = a
      · rw [if_neg c, if_pos c2, if_pos (by omega)]
        rfl
      · rw [if_neg c, if_neg c2, if_neg (by omega)]
        rfl
  | l + 1, 0, a, _ => by
    have e1 : plG w m (l + 1 + 1) 0 a = (if a < nSg (pmL w m (l + 1)) 0 then 1 else 0) + plG w m (l + 1) (2 * (0 - nSg (pmL w m (l + 1)) 0)) a := rfl
    have n0 : nSg (pmL w m (l + 1)) 0 = 0 := by simp [nSg, nF]
    have ih := ti_pl (w := w) (m := m) l 0 a (by omega)
    have z : tiS w m l 0 a = 0 := rfl
    rw [z] at ih
    rw [e1, n0, if_neg (by omega)]
    show (0 : Int) = 0 + plG w m (l + 1) 0 a
    rw [← ih]
    rfl
  | l + 1, t + 1, a, h => by
    have ih := ti_pl (w := w) (m := m) (l + 1) t a (by omega)
    have st := nSg_fl (L := pmL w m (l + 1)) (t := t) (by omega)
    have le1 := nSg_le (pmL w m (l + 1)) t
    have sp := (pm_sp (w := w) (m := m) (l := l + 1) h).2.2
    have epv : pvL w m (l + 1) = pmL w m l := rfl
    rw [epv] at sp
    have e1 : plG w m (l + 1 + 1) t a = (if a < nSg (pmL w m (l + 1)) t then 1 else 0) + plG w m (l + 1) (2 * (t - nSg (pmL w m (l + 1)) t)) a := rfl
    have e2 : plG w m (l + 1 + 1) (t + 1) a = (if a < nSg (pmL w m (l + 1)) (t + 1) then 1 else 0) + plG w m (l + 1) (2 * (t + 1 - nSg (pmL w m (l + 1)) (t + 1))) a := rfl
    have e3 : tiI w m (l + 1) t a = if flG (pmL w m (l + 1)) t then tiI w m l (2 * (t - nSg (pmL w m (l + 1)) t)) a + tiI w m l (2 * (t - nSg (pmL w m (l + 1)) t) + 1) a else if nSg (pmL w m (l + 1)) t = a then 1 else 0 := rfl
    have e4 : tiS w m (l + 1) (t + 1) a = tiS w m (l + 1) t a + tiI w m (l + 1) t a := rfl
    rw [e4, ih, e3, e1, e2]
    cases hf : flG (pmL w m (l + 1)) t with
    | false =>
      rw [hf] at st
      have st' : nSg (pmL w m (l + 1)) (t + 1) = nSg (pmL w m (l + 1)) t + 1 := st
      rw [st', show t + 1 - (nSg (pmL w m (l + 1)) t + 1) = t - nSg (pmL w m (l + 1)) t by omega]
      have q : (if (false : Bool) = true then tiI w m l (2 * (t - nSg (pmL w m (l + 1)) t)) a + tiI w m l (2 * (t - nSg (pmL w m (l + 1)) t) + 1) a else if nSg (pmL w m (l + 1)) t = a then (1 : Int) else 0) = if nSg (pmL w m (l + 1)) t = a then 1 else 0 := rfl
      rw [q]
      by_cases c : a < nSg (pmL w m (l + 1)) t
      · rw [if_pos c, if_neg (by omega), if_pos (by omega)]
        omega
      · by_cases c2 : nSg (pmL w m (l + 1)) t = a
        · rw [if_neg c, if_pos c2, if_pos (by omega)]
          omega
        · rw [if_neg c, if_neg c2, if_neg (by omega)]
          omega
    | true =>
      rw [hf] at st
      have st' : nSg (pmL w m (l + 1)) (t + 1) = nSg (pmL w m (l + 1)) t := st
      rw [st'] at sp ⊢
      obtain ⟨b, gb⟩ : ∃ b : Nat, b = t - nSg (pmL w m (l + 1)) t := ⟨_, rfl⟩
      rw [← gb, show t + 1 - nSg (pmL w m (l + 1)) t = b + 1 by omega]
      rw [show t + 1 - nSg (pmL w m (l + 1)) t = b + 1 by omega] at sp
      have i1 := ti_pl (w := w) (m := m) l (2 * b) a (by omega)
      have i2 := ti_pl (w := w) (m := m) l (2 * (b + 1)) a (by omega)
      have i3 : tiS w m l (2 * (b + 1)) a = tiS w m l (2 * b) a + tiI w m l (2 * b) a + tiI w m l (2 * b + 1) a := rfl
      rw [← i1, ← i2, i3]
      show _ + _ + (tiI w m l (2 * b) a + tiI w m l (2 * b + 1) a) = _
      omega
section MTAKE
variable {d nx zl : Nat} {K : Option TV → FH → Prop} {sh : Nat → Option Shp}
/-- lengths in the reference's row -/
def lnM' (M : FM) (fr : Int) (rk : List Int) (n : Nat) (v : Nat → Int) : Prop := lnV (fun x => M 194 (fr + x)) rk n v
theorem takeItem_Y {n m : Nat} {w : Nat → Int} {fr : Int} {rk : List Int} (hfr : 0 ≤ fr ∧ fr + n ≤ 339) (hnd : rk.Nodup) (hm : rk.length = m) (hm2 : 2 ≤ m ∧ m ≤ 288) (hx : ∀ x ∈ rk, 0 ≤ x ∧ x < n) : ∀ (l i : Nat) (M : FM) (K : Option TV → FH → Prop) (v : Nat → Int), l ≤ 14 → i < (pmL w m l).length → rkV (M 196) rk → (∀ l2 : Nat, l2 ≤ l → ∀ q : Nat, q < (pmL w m l2).length → M 199 (600 * (l2 : Int) + q) = itm (pmL w m l2) q) → lnM' M fr rk n v → (∀ M2 : FM, (∀ x : Nat, x ≠ 194 → M2 x = M x) → (∀ x : Int, (x < fr ∨ fr + n ≤ x) → M2 194 x = M 194 x) → lnM' M2 fr rk n (fun a => v a + tiI w m l i a) → K none (sh, M2, nx, zl)) → fm_Y (d + l + 1) 286 [.ref 168, .int (Int32.ofInt fr), .int (Int32.ofInt l), .int (Int32.ofInt i)] (sh, M, nx, zl) K := by
  -- one symbol more
  have ONE : ∀ (dd l i a0 : Nat) (M : FM) (K : Option TV → FH → Prop) (v : Nat → Int), a0 < m → rkV (M 196) rk → lnM' M fr rk n v → (∀ M2 : FM, (∀ x : Nat, x ≠ 194 → M2 x = M x) → (∀ x : Int, (x < fr ∨ fr + n ≤ x) → M2 194 x = M 194 x) → lnM' M2 fr rk n (fun a => v a + (if a0 = a then 1 else 0)) → K none (sh, M2, nx, zl)) → (o_al 0 (o_get 12 35 35 (o_il 1 (o_al 0 (o_get 12 37 37 (o_il 4 (o_iald (o_iadd (o_dup2 (o_iald (o_ic 1 (o_iadd (o_iast (b286_63 dd (fW dd kd286 K) K))))))))))))) : FC) [some (fx 168), some (ti fr), some (ti l), some (ti i), some (ti a0)] [] (sh, M, nx, zl) := by
    intro dd l i a0 M K v ha hrk hv k
    obtain ⟨x, hax⟩ : ∃ x : Int, rk[a0]? = some x := ⟨_, List.getElem?_eq_getElem (by omega)⟩
    have xr := hx x (List.mem_of_getElem? hax)
    have ax : M 196 a0 = x := hrk a0 x hax
    refine ⟨by omega, ?_⟩
    rw [ax]
    refine ⟨by omega, ?_⟩
    refine ⟨by omega, ?_⟩
    obtain ⟨P, gP⟩ : ∃ P : FM, P = pq M 194 (fr + x) (M 194 (fr + x) + 1) := ⟨_, rfl⟩
    have TL : K none (sh, P, nx, zl) := by
      refine k P (fun y hy => by rw [gP, pq_o _ _ _ hy]) (fun y hy => by rw [gP, pq_ne _ _ _ _ (by omega)]) ⟨fun a y hay => ?_, fun y y0 y1 hy => ?_⟩
      · have b := hv.1 a y hay
        dsimp only at b ⊢
        by_cases e : a = a0
        · have exy : x = y := by
            rw [e, hax] at hay
            injection hay
          rw [← exy] at b ⊢
          rw [gP, pq_at, b, if_pos e.symm]
        · have exy : y ≠ x := fun z => e (nd_inj hnd hay (by rw [z]; exact hax))
          rw [gP, pq_ne _ _ _ _ (by omega), b, if_neg (fun z => e z.symm)]
          omega
      · dsimp only
        rw [gP, pq_ne _ _ _ _ (fun z => hy (by rw [show y = x by omega]; exact List.mem_of_getElem? hax))]
        exact hv.2 y y0 y1 hy
    rw [gP] at TL
    exact TL
  intro l
  induction l with
  | zero =>
    intro i M K v hl hi hrk hit hv k
    have len := (pmL_len (w := w) (m := m) 0).2
    have e0 := hit 0 (by omega) i hi
    have sp := pm_sp (w := w) (m := m) (l := 0) (t := i + 1) (by omega)
    have st := nSg_fl (L := pmL w m 0) (t := i) hi
    rw [pm0_f] at st
    have st' : nSg (pmL w m 0) (i + 1) = nSg (pmL w m 0) i + 1 := st
    have ei : itm (pmL w m 0) i = nSg (pmL w m 0) i := by
      unfold itm
      rw [pm0_f]
      rfl
    rw [ei] at e0
    refine m286 [fx 168, ti fr, ti 0, ti i] ?_
    refine ⟨by omega, ?_⟩
    rw [show (600 : Int) * 0 + i = 600 * ((0 : Nat) : Int) + i by omega, e0]
    refine ⟨by omega, fun z => by omega, fun _ => ?_⟩
    exact ONE _ 0 i (nSg (pmL w m 0) i) M K v (by omega) hrk hv (fun M2 F2 G2 hv2 => k M2 F2 G2 hv2)
  | succ l ih =>
    intro i M K v hl hi hrk hit hv k
    have len := (pmL_len (w := w) (m := m) (l + 1)).2
    have e0 := hit (l + 1) (by omega) i hi
    have sp := pm_sp (w := w) (m := m) (l := l + 1) (t := i + 1) (by omega)
    have st := nSg_fl (L := pmL w m (l + 1)) (t := i) hi
    have le1 := nSg_le (pmL w m (l + 1)) i
    have e3 : ∀ a : Nat, tiI w m (l + 1) i a = if flG (pmL w m (l + 1)) i then tiI w m l (2 * (i - nSg (pmL w m (l + 1)) i)) a + tiI w m l (2 * (i - nSg (pmL w m (l + 1)) i) + 1) a else if nSg (pmL w m (l + 1)) i = a then 1 else 0 := fun a => rfl
    unfold itm at e0
    refine m286 [fx 168, ti fr, ti ((l : Int) + 1), ti i] ?_
    refine ⟨by omega, ?_⟩
    rw [show (600 : Int) * ((l : Int) + 1) + i = 600 * ((l + 1 : Nat) : Int) + i by omega, e0]
    cases hf : flG (pmL w m (l + 1)) i with
    | false =>
      rw [hf] at st
      have st' : nSg (pmL w m (l + 1)) (i + 1) = nSg (pmL w m (l + 1)) i + 1 := st
      refine ⟨by simp only [Bool.false_eq_true, if_false]; omega, fun z => absurd z (by simp only [Bool.false_eq_true, if_false]; omega), fun _ => ?_⟩
      refine ONE _ (l + 1) i (nSg (pmL w m (l + 1)) i) M K v (by omega) hrk hv (fun M2 F2 G2 hv2 => k M2 F2 G2 ?_)
      have : (fun a => v a + tiI w m (l + 1) i a) = fun a => v a + (if nSg (pmL w m (l + 1)) i = a then 1 else 0) := by
        funext a
        rw [e3 a, hf]
        rfl
      rw [this]
      exact hv2
    | true =>
      rw [hf] at st
      have st' : nSg (pmL w m (l + 1)) (i + 1) = nSg (pmL w m (l + 1)) i := st
      have epv : pvL w m (l + 1) = pmL w m l := rfl
      rw [st', epv] at sp
      obtain ⟨b, gb⟩ : ∃ b : Nat, b = i - nSg (pmL w m (l + 1)) i := ⟨_, rfl⟩
      rw [← gb] at e3
      have eb : (i : Int) - nSg (pmL w m (l + 1)) i = b := by omega
      rw [eb]
      have i0 : (if (true : Bool) = true then -1 - 2 * (b : Int) else (nSg (pmL w m (l + 1)) i : Int)) = -1 - 2 * (b : Int) := rfl
      rw [i0]
      refine ⟨by omega, fun _ => ?_, fun z => by omega⟩
      have ih' : ∀ (y z : Int) (i : Nat) (M : FM) (K : Option TV → FH → Prop) (v : Nat → Int), y = l → z = i → i < (pmL w m l).length → rkV (M 196) rk → (∀ l2 : Nat, l2 ≤ l → ∀ q : Nat, q < (pmL w m l2).length → M 199 (600 * (l2 : Int) + q) = itm (pmL w m l2) q) → lnM' M fr rk n v → (∀ M2 : FM, (∀ x : Nat, x ≠ 194 → M2 x = M x) → (∀ x : Int, (x < fr ∨ fr + n ≤ x) → M2 194 x = M 194 x) → lnM' M2 fr rk n (fun a => v a + tiI w m l i a) → K none (sh, M2, nx, zl)) → fm_Y (d + l + 1) 286 [.ref 168, .int (Int32.ofInt fr), .int (Int32.ofInt y), .int (Int32.ofInt z)] (sh, M, nx, zl) K := by
        intro y z i M K v ey ez
        subst ey
        subst ez
        exact ih i M K v (by omega)
      refine ih' _ _ (2 * b) M _ v (by omega) (by omega) (by omega) hrk (fun l2 h2 q hq => hit l2 (by omega) q hq) hv (fun M2 F2 G2 hv2 => ?_)
      refine ih' _ _ (2 * b + 1) M2 _ _ (by omega) (by omega) (by omega) (by rw [F2 196 (by omega)]; exact hrk) (fun l2 h2 q hq => by rw [F2 199 (by omega)]; exact hit l2 (by omega) q hq) hv2 (fun M3 F3 G3 hv3 => ?_)
      refine k M3 (fun x h => by rw [F3 x h, F2 x h]) (fun x h => by rw [G3 x h, G2 x h]) ?_
      have : (fun a => v a + tiI w m (l + 1) i a) = fun a => v a + tiI w m l (2 * b) a + tiI w m l (2 * b + 1) a := by
        funext a
        rw [e3 a, hf]
        show v a + (tiI w m l (2 * b) a + tiI w m l (2 * b + 1) a) = _
        omega
      rw [this]
      exact hv3
end MTAKE
