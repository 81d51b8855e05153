/-! THE FRAME RULE: cells that a run does not know stay as they are -/
/-- the cells h, and behind them those of g -/
def eg_ov (h : eg_H) (g : Nat → Option eg_C) : eg_H := (fun k => match h.1 k with
  | some c => some c
  | none => g k, h.2.1, h.2.2)
theorem eg_ov_at {h : eg_H} {g : Nat → Option eg_C} {a : Nat} {c : eg_C} (e : h.1 a = some c) : (eg_ov h g).1 a = some c := by
  show (match h.1 a with
    | some c => some c
    | none => g a) = some c
  rw [e]
theorem eg_ov_upd (h : eg_H) (g : Nat → Option eg_C) (a : Nat) (c : eg_C) : eg_upd (eg_ov h g) a c = eg_ov (eg_upd h a c) g := by
  unfold eg_upd eg_ov
  refine Prod.ext ?_ rfl
  funext k
  dsimp only
  by_cases e : k = a
  · rw [if_pos e, if_pos e]
  · rw [if_neg e, if_neg e]
theorem eg_ov_mk (h : eg_H) (g : Nat → Option eg_C) (c : eg_C) (n : Nat) : eg_mk (eg_ov h g) c n = eg_ov (eg_mk h c n) g := by
  unfold eg_mk eg_ov
  refine Prod.ext ?_ rfl
  funext k
  dsimp only
  by_cases e : k = h.2.1
  · rw [if_pos e, if_pos e]
  · rw [if_neg e, if_neg e]
theorem eg_ov_next (h : eg_H) (g : Nat → Option eg_C) : (eg_ov h g).2.1 = h.2.1 := rfl
section EGFR
variable {cl : List vw_C} {ty : Nat → Nat → FieldType} {K0 : Nat} {mt : Nat → Option eg_D} {g : Nat → Option eg_C} {st st2 : List Value} {h h2 : eg_H}
theorem eg_ald_ov {t : FieldType → Bool} (hs : eg_ald t st h = some (st2, h2)) : eg_ald t st (eg_ov h g) = some (st2, eg_ov h2 g) := by
  unfold eg_ald at hs ⊢
  split at hs
  · split at hs
    · next x hx =>
      rw [eg_ov_at hx]
      dsimp only
      split at hs
      · next hc => cases hs; rw [if_pos hc]
      · cases hs
    · cases hs
  · cases hs
theorem eg_ast_ov {t : FieldType → Bool} {w : Value → Bool} (hs : eg_ast K0 t w st h = some (st2, h2)) : eg_ast K0 t w st (eg_ov h g) = some (st2, eg_ov h2 g) := by
  unfold eg_ast at hs ⊢
  split at hs
  · split at hs
    · next x hx =>
      rw [eg_ov_at hx]
      dsimp only
      split at hs
      · next hc => cases hs; rw [if_pos hc, eg_ov_upd]
      · cases hs
    · cases hs
  · cases hs
theorem eg_na_ov {t : FieldType} (hs : eg_na t st h = some (st2, h2)) : eg_na t st (eg_ov h g) = some (st2, eg_ov h2 g) := by
  unfold eg_na at hs ⊢
  split at hs
  · split at hs
    · next hc => cases hs; rw [if_pos hc, eg_ov_mk]; rfl
    · cases hs
  · cases hs
theorem eg_ref_ov {C : String} {v : Value} (hr : eg_ref cl h C v = true) : eg_ref cl (eg_ov h g) C v = true := by
  unfold eg_ref at hr ⊢
  split at hr
  · rfl
  · split at hr
    · next o ho => rw [eg_ov_at ho]; exact hr
    · cases hr
  · cases hr
theorem eg_asq_ov (hs : eg_asq cl K0 st h = some (st2, h2)) : eg_asq cl K0 st (eg_ov h g) = some (st2, eg_ov h2 g) := by
  unfold eg_asq at hs ⊢
  split at hs
  · split at hs
    · next x hx =>
      rw [eg_ov_at hx]
      dsimp only at hs ⊢
      split at hs
      · next C hC =>
        split at hs
        · next hc =>
          cases hs
          rw [hC]
          rw [if_pos ⟨eg_ref_ov hc.1, hc.2⟩, eg_ov_upd]
        · cases hs
      · cases hs
    · cases hs
  · cases hs
theorem eg_cp_ov {q : Option eg_E} (hs : eg_cp cl K0 q st h = some (st2, h2)) : eg_cp cl K0 q st (eg_ov h g) = some (st2, eg_ov h2 g) := by
  unfold eg_cp at hs ⊢
  split at hs
  · split at hs
    · next ht =>
      rw [if_pos ht]
      split at hs
      · next n dp d sp a r =>
        split at hs
        · next x y hx hy =>
          rw [eg_ov_at hx, eg_ov_at hy]
          dsimp only at hs ⊢
          split at hs
          · next hc =>
            cases hs
            obtain ⟨c1, c2, c3, c4, c5, c6, c7, c8⟩ := hc
            have c9 : eg_refs cl (eg_ov h g) x.1 x.2.2 sp.toNatClampNeg n.toNatClampNeg = true := by
              revert c7
              unfold eg_refs
              split
              · intro c7
                simp only [List.all_eq_true] at c7 ⊢
                exact fun i hi => eg_ref_ov (c7 i hi)
              · exact id
              · exact id
            rw [if_pos ⟨c1, c2, c3, c4, c5, c6, c9, c8⟩, eg_ov_upd]
          · cases hs
        · cases hs
      · cases hs
    · cases hs
  · cases hs
theorem eg_mx_ov {f : Int32 → Int32 → Int32} (hs : eg_mx f st h = some (st2, h2)) (H : eg_H) : eg_mx f st H = some (st2, H) ∧ h2 = h := by
  unfold eg_mx at hs ⊢
  split at hs
  · split at hs
    · next hc => cases hs; exact ⟨by rw [if_pos hc], rfl⟩
    · cases hs
  · cases hs
theorem eg_mxl_ov {f : Int64 → Int64 → Int64} (hs : eg_mxl f st h = some (st2, h2)) (H : eg_H) : eg_mxl f st H = some (st2, H) ∧ h2 = h := by
  unfold eg_mxl at hs ⊢
  split at hs
  · split at hs
    · next hc => cases hs; exact ⟨by rw [if_pos hc], rfl⟩
    · cases hs
  · cases hs
theorem eg_mm_ov {q : Option eg_E} (hs : eg_mm q st h = some (st2, h2)) (H : eg_H) : eg_mm q st H = some (st2, H) ∧ h2 = h := by
  unfold eg_mm at hs ⊢
  split at hs
  · next z =>
    split at hs
    · next ht => rw [if_pos ht]; exact eg_mx_ov hs H
    · next h1 =>
      rw [if_neg h1]
      split at hs
      · next ht => rw [if_pos ht]; exact eg_mx_ov hs H
      · next h2 =>
        rw [if_neg h2]
        split at hs
        · next ht => rw [if_pos ht]; exact eg_mxl_ov hs H
        · next h3 =>
          rw [if_neg h3]
          split at hs
          · next ht => rw [if_pos ht]; exact eg_mxl_ov hs H
          · cases hs
  · cases hs
theorem eg_mm_no {x : eg_E} (hx : x.1 < 20) (H : eg_H) : eg_mm (some x) st H = none := by
  simp only [eg_mm]
  rw [if_neg (by omega), if_neg (by omega), if_neg (by omega), if_neg (by omega)]
set_option maxHeartbeats 2000000 in
theorem eg_h_ov {P : Nat → Option eg_E} {i : Instr} (hs : eg_h cl ty K0 P i st h = some (st2, h2)) : eg_h cl ty K0 P i st (eg_ov h g) = some (st2, eg_ov h2 g) := by
  cases i <;> (try (exact eg_no hs))
  case iaload => exact eg_ald_ov hs
  case laload => exact eg_ald_ov hs
  case baload => exact eg_ald_ov hs
  case caload => exact eg_ald_ov hs
  case saload => exact eg_ald_ov hs
  case aaload => exact eg_ald_ov hs
  case arraylength =>
    simp only [eg_h, eg_len] at hs ⊢
    split at hs
    · split at hs
      · next x hx => cases hs; rw [eg_ov_at hx]
      · cases hs
    · cases hs
  case iastore => exact eg_ast_ov hs
  case lastore => exact eg_ast_ov hs
  case bastore => exact eg_ast_ov hs
  case sastore => exact eg_ast_ov hs
  case aastore => exact eg_asq_ov hs
  case getfield ix =>
    simp only [eg_h, eg_gf] at hs ⊢
    split at hs
    · split at hs
      · next ht =>
        rw [if_pos ht]
        split at hs
        · split at hs
          · next o ho =>
            rw [eg_ov_at ho]
            dsimp only
            split at hs
            · next hc =>
              rw [if_pos hc]
              split at hs
              · next v hv => cases hs; first | rfl | rw [hv]
              · cases hs
            · cases hs
          · cases hs
        · cases hs
      · cases hs
    · cases hs
  case putfield ix =>
    simp only [eg_h, eg_pf] at hs ⊢
    split at hs
    · split at hs
      · next ht =>
        rw [if_pos ht]
        split at hs
        · split at hs
          · next o ho =>
            rw [eg_ov_at ho]
            dsimp only
            split at hs
            · next hc => cases hs; rw [if_pos hc, eg_ov_upd]
            · cases hs
          · cases hs
        · cases hs
      · cases hs
    · cases hs
  case new ix =>
    simp only [eg_h, eg_nw] at hs ⊢
    split at hs
    · split at hs
      · next ht =>
        rw [if_pos ht]
        split at hs
        · cases hs; rw [eg_ov_mk]; rfl
        · cases hs
      · cases hs
    · cases hs
  case newarray t =>
    simp only [eg_h] at hs ⊢
    split at hs
    · next ht => rw [if_pos ht]; exact eg_na_ov hs
    · cases hs
  case anewarray ix =>
    simp only [eg_h, eg_nq] at hs ⊢
    split at hs
    · split at hs
      · next ht =>
        rw [if_pos ht]
        split at hs
        · exact eg_na_ov hs
        · cases hs
      · cases hs
    · cases hs
  case ldc ix =>
    simp only [eg_h, eg_kk] at hs ⊢
    split at hs
    · split at hs
      · next ht => cases hs; rw [if_pos ht]
      · cases hs
    · cases hs
  case ldc_w ix =>
    simp only [eg_h, eg_kk] at hs ⊢
    split at hs
    · split at hs
      · next ht => cases hs; rw [if_pos ht]
      · cases hs
    · cases hs
  case ldc2_w ix =>
    simp only [eg_h, eg_kk] at hs ⊢
    split at hs
    · split at hs
      · next ht => cases hs; rw [if_pos ht]
      · cases hs
    · cases hs
  case getstatic ix =>
    simp only [eg_h, eg_ks] at hs ⊢
    split at hs
    · split at hs
      · next ht => cases hs; rw [if_pos ht]
      · cases hs
    · cases hs
  case invokespecial ix =>
    simp only [eg_h, eg_oi] at hs ⊢
    split at hs
    · split at hs
      · next ht =>
        rw [if_pos ht]
        split at hs
        · split at hs
          · next hc => cases hs; rw [if_pos hc]
          · cases hs
        · cases hs
      · cases hs
    · cases hs
  case invokestatic ix =>
    simp only [eg_h, eg_is] at hs ⊢
    split at hs
    · next r hr =>
      cases hs
      obtain ⟨e1, e2⟩ := eg_mm_ov hr (eg_ov h g)
      rw [e1, e2]
    · next hr =>
      have e : eg_mm (P ix) st (eg_ov h g) = none := by
        unfold eg_cp at hs
        split at hs
        · next x hx =>
          split at hs
          · next ht => rw [hx]; exact eg_mm_no (by omega) _
          · cases hs
        · cases hs
      rw [e]
      exact eg_cp_ov hs
/-- where a call stands, no instruction on cells does, whatever the cells -/
theorem eg_cq_h {P : Nat → Option eg_E} {i : Instr} {q : Nat × List Value × List Value} (hq : eg_cq P i st h = some q) (H : eg_H) : eg_h cl ty K0 P i st H = none := by
  cases i <;> (try (exact eg_no hq))
  case invokestatic ix =>
    simp only [eg_cq] at hq
    split at hq
    · next x hx =>
      split at hq
      · next hc =>
        have h7 := hc.1
        simp only [eg_h, eg_is, hx]
        rw [eg_mm_no (by omega)]
        simp only [eg_cp]
        rw [if_neg (by omega)]
      · cases hq
    · cases hq
  case invokevirtual ix => rfl
  case invokespecial ix =>
    simp only [eg_cq] at hq
    split at hq
    · next x hx =>
      split at hq
      · next hc =>
        have h7 := hc.1
        simp only [eg_h, eg_oi, hx]
        rw [if_neg (by omega)]
      · cases hq
    · cases hq
theorem eg_cq_ov {P : Nat → Option eg_E} {i : Instr} {q : Nat × List Value × List Value} (hq : eg_cq P i st h = some q) : eg_cq P i st (eg_ov h g) = some q := by
  cases i <;> (try (exact eg_no hq))
  case invokestatic ix => exact hq
  case invokevirtual ix =>
    simp only [eg_cq] at hq ⊢
    split at hq
    · split at hq
      · next hc =>
        rw [if_pos hc]
        split at hq
        · split at hq
          · next o ho => rw [eg_ov_at ho]; exact hq
          · cases hq
        · cases hq
      · cases hq
    · cases hq
  case invokespecial ix => exact hq
def eg_fr (g : Nat → Option eg_C) (f : eg_F) : Prop := ∀ (j : Nat) (as : List Value) (h : eg_H) (v : Option Value) (h2 : eg_H), f j as h = some (v, h2) → f j as (eg_ov h g) = some (v, eg_ov h2 g)
theorem eg_c_ov {P : Nat → Option eg_E} {f : eg_F} (hf : eg_fr g f) {i : Instr} (hs : eg_c P f i st h = some (st2, h2)) : eg_c P f i st (eg_ov h g) = some (st2, eg_ov h2 g) ∧ eg_h cl ty K0 P i st (eg_ov h g) = none := by
  rw [eg_c_eq] at hs
  rw [eg_c_eq]
  cases hq : eg_cq P i st h with
  | none => rw [hq] at hs; cases hs
  | some q =>
    rw [hq] at hs
    rw [eg_cq_ov hq]
    refine ⟨?_, eg_cq_h hq _⟩
    dsimp only at hs ⊢
    unfold eg_back at hs ⊢
    cases hz : f q.1 q.2.1 h with
    | none => rw [hz] at hs; cases hs
    | some z =>
      rw [hz] at hs
      cases hs
      rw [hf _ _ _ _ _ hz]
theorem eg_step_ov {M : eg_M} {f : eg_F} (hf : eg_fr g f) {pc pc2 : Nat} {l l2 : eg_L} (hs : eg_step cl ty K0 M f (pc, l, st, h) = some (pc2, l2, st2, h2)) : eg_step cl ty K0 M f (pc, l, st, eg_ov h g) = some (pc2, l2, st2, eg_ov h2 g) := by
  unfold eg_step at hs ⊢
  dsimp only at hs ⊢
  cases hM : M.1 pc with
  | none => rw [hM] at hs; cases hs
  | some q =>
    obtain ⟨i, n⟩ := q
    rw [hM] at hs
    dsimp only at hs ⊢
    cases hp : eg_p i st with
    | some z =>
      rw [hp] at hs
      dsimp only at hs ⊢
      split at hs
      · next hc => cases hs; rw [if_pos hc]
      · cases hs
    | none =>
      rw [hp] at hs
      dsimp only at hs ⊢
      cases hv : eg_v i l st with
      | some z =>
        rw [hv] at hs
        dsimp only at hs ⊢
        split at hs
        · next hc => cases hs; rw [if_pos hc]
        · cases hs
      | none =>
        rw [hv] at hs
        dsimp only at hs ⊢
        cases hb : eg_b K0 pc i st with
        | some z =>
          rw [hb] at hs
          dsimp only at hs ⊢
          split at hs
          · next hc => cases hs; rw [if_pos hc]
          · cases hs
        | none =>
          rw [hb] at hs
          dsimp only at hs ⊢
          cases hh : eg_h cl ty K0 M.2 i st h with
          | some z =>
            obtain ⟨z1, z2⟩ := z
            rw [hh] at hs
            rw [eg_h_ov hh]
            dsimp only at hs ⊢
            split at hs
            · next hc => cases hs; rw [if_pos hc]
            · cases hs
          | none =>
            rw [hh] at hs
            dsimp only at hs
            cases hc : eg_c M.2 f i st h with
            | none => rw [hc] at hs; cases hs
            | some z =>
              obtain ⟨z1, z2⟩ := z
              rw [hc] at hs
              obtain ⟨k1, k2⟩ := eg_c_ov (cl := cl) (ty := ty) (K0 := K0) hf hc
              rw [k2]
              dsimp only at hs ⊢
              rw [k1]
              dsimp only
              split at hs
              · next h3 => cases hs; rw [if_pos h3]
              · cases hs
theorem eg_ret_ov {t : Option FieldType} {M : eg_M} {pc : Nat} {l : eg_L} : eg_ret t M (pc, l, st, eg_ov h g) = eg_ret t M (pc, l, st, h) := rfl
theorem eg_run_ov {t : Option FieldType} {M : eg_M} {f : eg_F} (hf : eg_fr g f) : ∀ (n pc : Nat) (l : eg_L) (st : List Value) (h : eg_H) (v : Option Value) (h2 : eg_H), eg_run cl ty K0 t M f n (pc, l, st, h) = some (v, h2) → eg_run cl ty K0 t M f n (pc, l, st, eg_ov h g) = some (v, eg_ov h2 g)
  | 0, pc, l, st, h, v, h2, hs => by cases hs
  | n + 1, pc, l, st, h, v, h2, hs => by
    simp only [eg_run] at hs ⊢
    rw [eg_ret_ov]
    cases hr : eg_ret t M (pc, l, st, h) with
    | some w =>
      rw [hr] at hs
      cases hs
      rfl
    | none =>
      rw [hr] at hs
      dsimp only at hs ⊢
      cases hy : eg_step cl ty K0 M f (pc, l, st, h) with
      | none => rw [hy] at hs; cases hs
      | some y =>
        obtain ⟨y1, y2, y3, y4⟩ := y
        rw [hy] at hs
        rw [eg_step_ov hf hy]
        exact eg_run_ov hf n y1 y2 y3 y4 v h2 hs
theorem eg_go_ov (n : Nat) : ∀ d : Nat, eg_fr g (eg_go cl ty K0 mt n d)
  | 0, j, as, h, v, h2, hs => by cases hs
  | d + 1, j, as, h, v, h2, hs => by
    simp only [eg_go] at hs ⊢
    cases hy : mt j with
    | none => rw [hy] at hs; cases hs
    | some y =>
      rw [hy] at hs
      dsimp only at hs ⊢
      cases hl : eg_in0 as y.2.2.1 with
      | none => rw [hl] at hs; cases hs
      | some la =>
        rw [hl] at hs
        exact eg_run_ov (eg_go_ov n d) n _ _ _ _ _ _ hs
/-- THE FRAME RULE for a method -/
theorem eg_V.frame {d j : Nat} {as : List Value} {v : Option Value} (k : eg_V cl ty K0 mt d j as h v h2) (g : Nat → Option eg_C) : eg_V cl ty K0 mt d j as (eg_ov h g) v (eg_ov h2 g) := by
  obtain ⟨n, hn⟩ := k
  exact ⟨n, eg_go_ov n d _ _ _ _ _ hn⟩
theorem eg_W.frame {d pc : Nat} {l : eg_L} {t : Option FieldType} {M : eg_M} {v : Option Value} (k : eg_W cl ty K0 mt d t M (pc, l, st, h) v h2) (g : Nat → Option eg_C) : eg_W cl ty K0 mt d t M (pc, l, st, eg_ov h g) v (eg_ov h2 g) := by
  obtain ⟨n, hn⟩ := k
  exact ⟨n, eg_run_ov (eg_go_ov n d) n _ _ _ _ _ _ hn⟩
end EGFR
