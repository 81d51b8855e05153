/-! THE PURE MACHINE, part 7: calls and runs -/
abbrev eg_S : Type := Nat × eg_L × List Value × eg_H
abbrev eg_F : Type := Nat → List Value → eg_H → Option (Option Value × eg_H)
/-- a method of the table: its name, bytes, places, answer's type, and what the machine reads -/
abbrev eg_D : Type := MethodName × ByteArray × Nat × Option FieldType × eg_M
def eg_back (r : List Value) (x : Option (Option Value × eg_H)) : Option (List Value × eg_H) := match x with
  | some y => some (y.1.toList ++ r, y.2)
  | none => none
def eg_c (P : Nat → Option eg_E) (f : eg_F) (i : Instr) (st : List Value) (h : eg_H) : Option (List Value × eg_H) := match i with
  | .invokestatic ix => (match P ix with
    | some q => if (q.1 = 7 ∨ q.1 = 9) ∧ q.2.2.1 ≤ st.length ∧ eg_sum (st.drop q.2.2.1) ≤ 8 then eg_back (st.drop q.2.2.1) (f q.2.1 (st.take q.2.2.1).reverse h) else none
    | none => none)
  | .invokevirtual ix => (match P ix with
    | some q => if (q.1 = 6 ∨ q.1 = 8) ∧ q.2.2.1 ≤ st.length then (match st.drop q.2.2.1 with
      | .ref a :: r => (match h.1 a with
        | some (.inr o) => if q.2.2.2 = .ref o.1 ∧ eg_sum r ≤ 8 then eg_back r (f q.2.1 (.ref a :: (st.take q.2.2.1).reverse) h) else none
        | _ => none)
      | _ => none) else none
    | none => none)
  | .invokespecial ix => (match P ix with
    | some q => if (q.1 = 5 ∨ q.1 = 10) ∧ q.2.2.1 ≤ st.length then (match st.drop q.2.2.1 with
      | .ref a :: r => if eg_sum r ≤ 8 then eg_back r (f q.2.1 (.ref a :: (st.take q.2.2.1).reverse) h) else none
      | _ => none) else none
    | none => none)
  | _ => none
def eg_step (cl : List vw_C) (ty : Nat → Nat → FieldType) (K0 : Nat) (M : eg_M) (f : eg_F) (x : eg_S) : Option eg_S := match M.1 x.1 with
  | some (i, n) => (match eg_p i x.2.2.1 with
    | some st2 => if n = eg_pl i then some (x.1 + n, x.2.1, st2, x.2.2.2) else none
    | none => (match eg_v i x.2.1 x.2.2.1 with
      | some y => if n = eg_vl i ∨ (n = 6 ∧ eg_isinc i = true) then some (x.1 + n, y.1, y.2, x.2.2.2) else none
      | none => (match eg_b K0 x.1 i x.2.2.1 with
        | some y => if eg_bl i n = true then some (y.1, x.2.1, y.2, x.2.2.2) else none
        | none => (match eg_h cl ty K0 M.2 i x.2.2.1 x.2.2.2 with
          | some y => if n = eg_hl i then some (x.1 + n, x.2.1, y.1, y.2) else none
          | none => (match eg_c M.2 f i x.2.2.1 x.2.2.2 with
            | some y => if n = 3 then some (x.1 + 3, x.2.1, y.1, y.2) else none
            | none => none)))))
  | none => none
/-- the answer, where the code returns -/
def eg_ret (t : Option FieldType) (M : eg_M) (x : eg_S) : Option (Option Value) := match M.1 x.1 with
  | some (.ireturn, 1) => (match x.2.2.1, t with
    | [.int v], some .int => some (some (.int v))
    | [.int v], some .boolean => if v = 0 ∨ v = 1 then some (some (.int v)) else none
    | _, _ => none)
  | some (.lreturn, 1) => (match x.2.2.1, t with
    | [.long v], some .long => some (some (.long v))
    | _, _ => none)
  | some (.areturn, 1) => (match x.2.2.1, t with
    | [.ref a], some (.object _) => some (some (.ref a))
    | [.null], some (.object _) => some (some .null)
    | [.ref a], some (.array _) => some (some (.ref a))
    | [.null], some (.array _) => some (some .null)
    | _, _ => none)
  | some (.return_, 1) => (match x.2.2.1, t with
    | [], none => some none
    | _, _ => none)
  | _ => none
def eg_run (cl : List vw_C) (ty : Nat → Nat → FieldType) (K0 : Nat) (t : Option FieldType) (M : eg_M) (f : eg_F) : Nat → eg_S → Option (Option Value × eg_H)
  | 0, _ => none
  | n + 1, x => (match eg_ret t M x with
    | some v => some (v, x.2.2.2)
    | none => (match eg_step cl ty K0 M f x with
      | some y => eg_run cl ty K0 t M f n y
      | none => none))
def eg_row (as : List Value) : eg_L := as.flatMap fun v => if v.category = 2 then [some v, none] else [some v]
def eg_in0 (as : List Value) (n : Nat) : Option eg_L := if (eg_row as).length ≤ n then some (eg_row as ++ List.replicate (n - (eg_row as).length) none) else none
/-- a method of the table, with calls nested d deep at most, in n steps at most each -/
def eg_go (cl : List vw_C) (ty : Nat → Nat → FieldType) (K0 : Nat) (mt : Nat → Option eg_D) (n : Nat) : Nat → eg_F
  | 0 => fun _ _ _ => none
  | d + 1 => fun j as h => (match mt j with
    | some y => (match eg_in0 as y.2.2.1 with
      | some la => eg_run cl ty K0 y.2.2.2.1 y.2.2.2.2 (eg_go cl ty K0 mt n d) n (0, la, [], h)
      | none => none)
    | none => none)
/-! the counts only rise -/
def eg_le (a b : eg_H) : Prop := a.2.1 ≤ b.2.1 ∧ a.2.2 ≤ b.2.2
theorem eg_le.rf (a : eg_H) : eg_le a a := ⟨Nat.le_refl _, Nat.le_refl _⟩
theorem eg_le.tr {a b d : eg_H} (h : eg_le a b) (g : eg_le b d) : eg_le a d := ⟨Nat.le_trans h.1 g.1, Nat.le_trans h.2 g.2⟩
theorem eg_le_upd (h : eg_H) (a : Nat) (x : eg_C) : eg_le h (eg_upd h a x) := ⟨Nat.le_refl _, Nat.le_refl _⟩
theorem eg_le_mk (h : eg_H) (x : eg_C) (n : Nat) : eg_le h (eg_mk h x n) := ⟨Nat.le_succ _, Nat.le_add_right _ _⟩
theorem eg_ald_le {t : FieldType → Bool} {st st2 : List Value} {h h2 : eg_H} (hs : eg_ald t st h = some (st2, h2)) : eg_le h h2 := by
  unfold eg_ald at hs
  (repeat' split at hs) <;> first | (cases hs; exact eg_le.rf _) | cases hs
theorem eg_ast_le {K0 : Nat} {t : FieldType → Bool} {w : Value → Bool} {st st2 : List Value} {h h2 : eg_H} (hs : eg_ast K0 t w st h = some (st2, h2)) : eg_le h h2 := by
  unfold eg_ast at hs
  (repeat' split at hs) <;> first | (cases hs; exact eg_le_upd _ _ _) | cases hs
theorem eg_na_le {t : FieldType} {st st2 : List Value} {h h2 : eg_H} (hs : eg_na t st h = some (st2, h2)) : eg_le h h2 := by
  unfold eg_na at hs
  (repeat' split at hs) <;> first | (cases hs; exact eg_le_mk _ _ _) | cases hs
theorem eg_kk_le {t : Nat} {q : Option eg_E} {st st2 : List Value} {h h2 : eg_H} (hs : eg_kk t q st h = some (st2, h2)) : eg_le h h2 := by
  unfold eg_kk at hs
  (repeat' split at hs) <;> first | (cases hs; exact eg_le.rf _) | cases hs
set_option maxHeartbeats 4000000 in
theorem eg_h_le {cl : List vw_C} {ty : Nat → Nat → FieldType} {K0 : Nat} {P : Nat → Option eg_E} {i : Instr} {st st2 : List Value} {h h2 : eg_H} (hs : eg_h cl ty K0 P i st h = some (st2, h2)) : eg_le h h2 := by
  cases i <;> (try (exact eg_no hs))
  case iaload => exact eg_ald_le hs
  case laload => exact eg_ald_le hs
  case baload => exact eg_ald_le hs
  case caload => exact eg_ald_le hs
  case saload => exact eg_ald_le hs
  case aaload => exact eg_ald_le hs
  case arraylength =>
    simp only [eg_h, eg_len] at hs
    (repeat' split at hs) <;> first | (cases hs; exact eg_le.rf _) | cases hs
  case iastore => exact eg_ast_le hs
  case lastore => exact eg_ast_le hs
  case bastore => exact eg_ast_le hs
  case sastore => exact eg_ast_le hs
  case aastore =>
    simp only [eg_h, eg_asq] at hs
    (repeat' split at hs) <;> first | (cases hs; exact eg_le_upd _ _ _) | cases hs
  case getfield ix =>
    simp only [eg_h, eg_gf] at hs
    (repeat' split at hs) <;> first | (cases hs; exact eg_le.rf _) | cases hs
  case putfield ix =>
    simp only [eg_h, eg_pf] at hs
    (repeat' split at hs) <;> first | (cases hs; exact eg_le_upd _ _ _) | cases hs
  case new ix =>
    simp only [eg_h, eg_nw] at hs
    (repeat' split at hs) <;> first | (cases hs; exact eg_le_mk _ _ _) | cases hs
  case newarray t =>
    simp only [eg_h] at hs
    split at hs
    · exact eg_na_le hs
    · cases hs
  case anewarray ix =>
    simp only [eg_h, eg_nq] at hs
    (repeat' split at hs) <;> first | exact eg_na_le hs | cases hs
  case ldc ix => exact eg_kk_le hs
  case ldc_w ix => exact eg_kk_le hs
  case ldc2_w ix => exact eg_kk_le hs
  case getstatic ix =>
    simp only [eg_h, eg_ks] at hs
    (repeat' split at hs) <;> first | (cases hs; exact eg_le.rf _) | cases hs
  case invokespecial ix =>
    simp only [eg_h, eg_oi] at hs
    (repeat' split at hs) <;> first | (cases hs; exact eg_le.rf _) | cases hs
  case invokestatic ix =>
    simp only [eg_h, eg_is] at hs
    split at hs
    · next r hr =>
      cases hs
      simp only [eg_mm, eg_mx, eg_mxl] at hr
      (repeat' split at hr) <;> first | (cases hr; exact eg_le.rf _) | cases hr
    · simp only [eg_cp] at hs
      (repeat' split at hs) <;> first | (cases hs; exact eg_le_upd _ _ _) | cases hs
theorem eg_back_le {r st2 : List Value} {x : Option (Option Value × eg_H)} {h h2 : eg_H} (hx : ∀ v g, x = some (v, g) → eg_le h g) (hs : eg_back r x = some (st2, h2)) : eg_le h h2 := by
  unfold eg_back at hs
  split at hs
  · next y => cases hs; exact hx y.1 y.2 rfl
  · cases hs
theorem eg_c_le {P : Nat → Option eg_E} {f : eg_F} (hf : ∀ j as h v h2, f j as h = some (v, h2) → eg_le h h2) {i : Instr} {st st2 : List Value} {h h2 : eg_H} (hs : eg_c P f i st h = some (st2, h2)) : eg_le h h2 := by
  cases i <;> (try (exact eg_no hs))
  all_goals (simp only [eg_c] at hs; (repeat' split at hs) <;> first | exact eg_back_le (fun v g e => hf _ _ _ _ _ e) hs | cases hs)
set_option maxHeartbeats 2000000 in
theorem eg_step_le {cl : List vw_C} {ty : Nat → Nat → FieldType} {K0 : Nat} {M : eg_M} {f : eg_F} (hf : ∀ j as h v h2, f j as h = some (v, h2) → eg_le h h2) {x y : eg_S} (hs : eg_step cl ty K0 M f x = some y) : eg_le x.2.2.2 y.2.2.2 := by
  unfold eg_step at hs
  split at hs
  · split at hs
    · split at hs <;> first | (cases hs; exact eg_le.rf _) | cases hs
    · split at hs
      · split at hs <;> first | (cases hs; exact eg_le.rf _) | cases hs
      · split at hs
        · split at hs <;> first | (cases hs; exact eg_le.rf _) | cases hs
        · split at hs
          · next z hz => split at hs <;> first | (cases hs; exact eg_h_le hz) | cases hs
          · split at hs
            · next z hz => split at hs <;> first | (cases hs; exact eg_c_le hf hz) | cases hs
            · cases hs
  · cases hs
theorem eg_run_le {cl : List vw_C} {ty : Nat → Nat → FieldType} {K0 : Nat} {t : Option FieldType} {M : eg_M} {f : eg_F} (hf : ∀ j as h v h2, f j as h = some (v, h2) → eg_le h h2) : ∀ (n : Nat) (x : eg_S) (v : Option Value) (h2 : eg_H), eg_run cl ty K0 t M f n x = some (v, h2) → eg_le x.2.2.2 h2
  | 0, x, v, h2, hs => by cases hs
  | n + 1, x, v, h2, hs => by
    simp only [eg_run] at hs
    split at hs
    · cases hs; exact eg_le.rf _
    · split at hs
      · next y hy => exact (eg_step_le hf hy).tr (eg_run_le hf n y v h2 hs)
      · cases hs
theorem eg_go_le {cl : List vw_C} {ty : Nat → Nat → FieldType} {K0 : Nat} {mt : Nat → Option eg_D} {n : Nat} : ∀ (d j : Nat) (as : List Value) (h : eg_H) (v : Option Value) (h2 : eg_H), eg_go cl ty K0 mt n d j as h = some (v, h2) → eg_le h h2
  | 0, j, as, h, v, h2, hs => by cases hs
  | d + 1, j, as, h, v, h2, hs => by
    simp only [eg_go] at hs
    split at hs
    · split at hs
      · exact eg_run_le (fun j as h v h2 => eg_go_le d j as h v h2) n _ v h2 hs
      · cases hs
    · cases hs
