/-! THE PURE MACHINE, part 4: the cells, and how they lie in the heap -/
def eg_cr (D : va_G) (cl : List vw_C) (ad : Nat → Nat) (U : State) (H : Heap) (k : Nat) (x : eg_C) : Prop := match x with
  | .inl a => ∃ cell : Cell, H[ad k]? = some cell ∧ U.isArrayOf cell a.1 ∧ cell.vm ≠ .unknown ∧ (a.2.1 ≤ cell.slots.size ∧ cell.slots.size.toInt32 = Int32.ofNat a.2.1) ∧ (∀ j, j < a.2.1 → cell.slots[j]? = some (eg_cv ad (a.2.2 j))) ∧ (∀ C, a.1 = .object C → va_RA U cell.cls a.1) ∧ ∀ j, j < a.2.1 → fits a.1 (a.2.2 j) = true
  | .inr o => ∃ r : vw_C, cl[o.1]? = some r ∧ t_OB (ad k) (D.1 o.1) r.2.2 (D.2 o.1) H (vp_V (o.2.map (eg_cv ad)))
theorem eg_cr.kept {D : va_G} {cl : List vw_C} {ad : Nat → Nat} {U : State} {H H1 : Heap} {k : Nat} {x : eg_C} (h : eg_cr D cl ad U H k x) (hq : H1[ad k]? = H[ad k]?) : eg_cr D cl ad U H1 k x := by
  cases x with
  | inl a =>
    obtain ⟨cell, h1, h2⟩ := h
    exact ⟨cell, by rw [hq]; exact h1, h2⟩
  | inr o =>
    obtain ⟨r, h1, h2⟩ := h
    exact ⟨r, h1, h2.kept hq⟩
theorem eg_cr.moved {D : va_G} {cl : List vw_C} {ad : Nat → Nat} {u U : State} {H : Heap} {k : Nat} {x : eg_C} (hvm : u.vm.Alike U.vm) (h : eg_cr D cl ad u H k x) : eg_cr D cl ad U H k x := by
  cases x with
  | inl a =>
    obtain ⟨cell, h1, h2, h3, h4, h5, h6, h7⟩ := h
    exact ⟨cell, h1, State.isArrayOf_alike hvm h2, h3, h4, h5, fun C hC => (h6 C hC).moved hvm, h7⟩
  | inr o => exact h
theorem eg_cr.lt {D : va_G} {cl : List vw_C} {ad : Nat → Nat} {U : State} {H : Heap} {k : Nat} {x : eg_C} (h : eg_cr D cl ad U H k x) : ad k < H.size := by
  cases x with
  | inl a =>
    obtain ⟨cell, h1, -⟩ := h
    exact (Array.getElem?_eq_some_iff.mp h1).1
  | inr o =>
    obtain ⟨r, -, cell, h1, -⟩ := h
    exact (Array.getElem?_eq_some_iff.mp h1).1
/-- the heap holds the numbered cells -/
def eg_R (D : va_G) (cl : List vw_C) (ad : Nat → Nat) (K0 base : Nat) (U : State) (h : eg_H) (H : Heap) : Prop :=
  (∀ (k : Nat) (x : eg_C), h.1 k = some x → k < h.2.1 ∧ eg_cr D cl ad U H k x) ∧ H.size = base + (h.2.1 - K0) ∧ K0 ≤ h.2.1
theorem eg_R.moved {D : va_G} {cl : List vw_C} {ad : Nat → Nat} {K0 base : Nat} {u U : State} {h : eg_H} {H : Heap} (hvm : u.vm.Alike U.vm) (r : eg_R D cl ad K0 base u h H) : eg_R D cl ad K0 base U h H :=
  ⟨fun k x hk => ⟨(r.1 k x hk).1, (r.1 k x hk).2.moved hvm⟩, r.2⟩
def eg_upd (h : eg_H) (a : Nat) (x : eg_C) : eg_H := (fun k => if k = a then some x else h.1 k, h.2.1, h.2.2)
def eg_mk (h : eg_H) (x : eg_C) (n : Nat) : eg_H := (fun k => if k = h.2.1 then some x else h.1 k, h.2.1 + 1, h.2.2 + n)
theorem eg_R.put {D : va_G} {cl : List vw_C} {ad : Nat → Nat} {K0 base a : Nat} {U : State} {h : eg_H} {H H1 : Heap} {x y : eg_C} (had : eg_ad ad K0 base) (r : eg_R D cl ad K0 base U h H) (ha : h.1 a = some x) (hK : K0 ≤ a)
    (z : H1.size = H.size) (oq : ∀ q : Nat, q ≠ ad a → H1[q]? = H[q]?) (hy : eg_cr D cl ad U H1 a y) : eg_R D cl ad K0 base U (eg_upd h a y) H1 := by
  refine ⟨fun k w hk => ?_, by rw [z]; exact r.2.1, r.2.2⟩
  simp only [eg_upd] at hk
  by_cases e : k = a
  · rw [if_pos e] at hk
    cases hk
    subst e
    exact ⟨(r.1 k x ha).1, hy⟩
  · rw [if_neg e] at hk
    exact ⟨(r.1 k w hk).1, (r.1 k w hk).2.kept (oq _ (had.ne hK e))⟩
theorem eg_R.mk {D : va_G} {cl : List vw_C} {ad : Nat → Nat} {K0 base n : Nat} {U : State} {h : eg_H} {H H1 : Heap} {y : eg_C} (r : eg_R D cl ad K0 base U h H)
    (z : H1.size = H.size + 1) (oq : ∀ q : Nat, q < H.size → H1[q]? = H[q]?) (hy : eg_cr D cl ad U H1 h.2.1 y) : eg_R D cl ad K0 base U (eg_mk h y n) H1 := by
  refine ⟨fun k w hk => ?_, ?_, ?_⟩
  · simp only [eg_mk] at hk ⊢
    by_cases e : k = h.2.1
    · rw [if_pos e] at hk
      cases hk
      subst e
      exact ⟨by omega, hy⟩
    · rw [if_neg e] at hk
      have q := r.1 k w hk
      exact ⟨by omega, q.2.kept (oq _ q.2.lt)⟩
  · have h1 := r.2.1
    have h2 := r.2.2
    simp only [eg_mk]
    omega
  · have h2 := r.2.2
    simp only [eg_mk]
    omega
theorem eg_R.at {D : va_G} {cl : List vw_C} {ad : Nat → Nat} {K0 base : Nat} {U : State} {h : eg_H} {H : Heap} (had : eg_ad ad K0 base) (r : eg_R D cl ad K0 base U h H) : ad h.2.1 = H.size := by
  rw [(had h.2.1).2 r.2.2, r.2.1]
/-- what a field of a type takes, unchanged -/
def eg_fit (ty : FieldType) (v : Value) : Bool := match ty, v with
  | .int, .int _ => true
  | .long, .long _ => true
  | .boolean, .int x => x == 0 || x == 1
  | .object _, .ref _ => true
  | .object _, .null => true
  | .array _, .ref _ => true
  | .array _, .null => true
  | _, _ => false
theorem eg_fit_ok {ty : FieldType} {v : Value} (ad : Nat → Nat) (h : eg_fit ty v = true) : narrow ty (eg_cv ad v) = eg_cv ad v ∧ fits ty (eg_cv ad v) = true := by
  unfold eg_fit at h
  split at h <;> first | exact ⟨rfl, rfl⟩ | skip
  · next x =>
    simp only [Bool.or_eq_true, beq_iff_eq] at h
    rcases h with rfl | rfl
    · exact ⟨show narrow .boolean (.int 0) = .int 0 by decide, show fits .boolean (.int 0) = true by decide⟩
    · exact ⟨show narrow .boolean (.int 1) = .int 1 by decide, show fits .boolean (.int 1) = true by decide⟩
  · cases h
def eg_in (i : Int32) (n : Nat) : Bool := !(decide (i < 0)) && decide (i.toNatClampNeg < n)
theorem eg_in_ok {i : Int32} {n : Nat} (h : eg_in i n = true) : ¬ (i < 0 ∨ n ≤ i.toNatClampNeg) ∧ i.toNatClampNeg < n := by
  simp only [eg_in, Bool.and_eq_true, Bool.not_eq_true', decide_eq_false_iff_not, decide_eq_true_eq] at h
  exact ⟨fun q => q.elim h.1 (fun z => by omega), h.2⟩
def eg_tI (ty : FieldType) : Bool := match ty with
  | .int => true
  | _ => false
def eg_tJ (ty : FieldType) : Bool := match ty with
  | .long => true
  | _ => false
def eg_tB (ty : FieldType) : Bool := match ty with
  | .byte => true
  | .boolean => true
  | _ => false
def eg_tC (ty : FieldType) : Bool := match ty with
  | .char => true
  | _ => false
def eg_tS (ty : FieldType) : Bool := match ty with
  | .short => true
  | _ => false
def eg_ald (t : FieldType → Bool) (st : List Value) (h : eg_H) : Option (List Value × eg_H) := match st with
  | .int i :: .ref a :: r => (match h.1 a with
    | some (.inl x) => if t x.1 = true ∧ eg_in i x.2.1 = true then some (x.2.2 i.toNatClampNeg :: r, h) else none
    | _ => none)
  | _ => none
def eg_len (st : List Value) (h : eg_H) : Option (List Value × eg_H) := match st with
  | .ref a :: r => (match h.1 a with
    | some (.inl x) => some (.int (Int32.ofNat x.2.1) :: r, h)
    | _ => none)
  | _ => none
def eg_ast (K0 : Nat) (t : FieldType → Bool) (w : Value → Bool) (st : List Value) (h : eg_H) : Option (List Value × eg_H) := match st with
  | v :: .int i :: .ref a :: r => (match h.1 a with
    | some (.inl x) => if t x.1 = true ∧ w v = true ∧ eg_in i x.2.1 = true ∧ K0 ≤ a then some (r, eg_upd h a (.inl (x.1, x.2.1, updV x.2.2 i.toNatClampNeg (narrow x.1 v)))) else none
    | _ => none)
  | _ => none
theorem eg_fit_byte (x : Int32) : fits .byte (.int x.toInt8.toInt32) = true := by
  have h1 := Int8.le_toInt x.toInt8
  have h2 := Int8.toInt_lt x.toInt8
  simp only [fits, Bool.and_eq_true, decide_eq_true_eq, Int32.le_iff_toInt_le, Int8.toInt_toInt32]
  constructor
  · show (-128 : Int) ≤ _
    omega
  · show _ ≤ (127 : Int)
    omega
theorem eg_fit_short (x : Int32) : fits .short (.int x.toInt16.toInt32) = true := by
  have h1 := Int16.le_toInt x.toInt16
  have h2 := Int16.toInt_lt x.toInt16
  simp only [fits, Bool.and_eq_true, decide_eq_true_eq, Int32.le_iff_toInt_le, Int16.toInt_toInt32]
  constructor
  · show (-32768 : Int) ≤ _
    omega
  · show _ ≤ (32767 : Int)
    omega
theorem eg_fit_bool (x : Int32) : fits .boolean (.int (x &&& 1)) = true := by
  obtain ⟨j, hj, e⟩ := pk_andE x (m := 1) 1 (by decide)
  rw [e]
  have : j = 0 ∨ j = 1 := by omega
  rcases this with rfl | rfl <;> decide
/-- what a stored value of a type is, fits it -/
theorem eg_fit_nar {ty : FieldType} {v : Value} (h : (eg_isI v = true ∧ (ty = .int ∨ ty = .byte ∨ ty = .boolean ∨ ty = .short)) ∨ (eg_isJ v = true ∧ ty = .long)) : fits ty (narrow ty v) = true := by
  rcases h with ⟨h1, h2⟩ | ⟨h1, h2⟩
  · cases v <;> simp only [eg_isI] at h1 <;> first | cases h1 | skip
    rcases h2 with rfl | rfl | rfl | rfl
    · rfl
    · exact eg_fit_byte _
    · exact eg_fit_bool _
    · exact eg_fit_short _
  · cases v <;> simp only [eg_isJ] at h1 <;> first | cases h1 | skip
    subst h2
    rfl
/-- a stored row keeps its picture -/
theorem eg_cr_set {D : va_G} {cl : List vw_C} {ad : Nat → Nat} {U : State} {H1 : Heap} {a n j : Nat} {ty : FieldType} {f : Nat → Value} {v : Value} {cell : Cell} (h2 : U.isArrayOf cell ty) (h3 : cell.vm ≠ .unknown) (h4 : n ≤ cell.slots.size ∧ cell.slots.size.toInt32 = Int32.ofNat n)
    (h5 : ∀ j, j < n → cell.slots[j]? = some (eg_cv ad (f j))) (h6 : ∀ C, ty = .object C → va_RA U cell.cls ty) (h7 : ∀ j, j < n → fits ty (f j) = true) (hv : fits ty v = true) (hj : j < n) (e : H1[ad a]? = some (cell.setSlot j (eg_cv ad v))) : eg_cr D cl ad U H1 a (.inl (ty, n, updV f j v)) := by
  refine ⟨_, e, ?_, h3, ?_, fun q hq => ?_, h6, fun q hq => ?_⟩
  · exact h2
  · rw [k2_slotsz]; exact h4
  · simp only [updV]
    by_cases e1 : q = j
    · subst e1
      rw [if_pos rfl]
      exact Cell.slots_setSlot_self _ (Nat.lt_of_lt_of_le hj h4.1)
    · rw [if_neg e1, Cell.slots_setSlot_ne _ (Ne.symm e1)]
      exact h5 q hq
  · simp only [updV]
    by_cases e1 : q = j
    · rw [if_pos e1]; exact hv
    · rw [if_neg e1]; exact h7 q hq
