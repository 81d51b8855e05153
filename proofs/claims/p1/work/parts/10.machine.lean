/-! THE PURE MACHINE: what the bytecode does, as functions on places, values and numbered cells. Part 1: stack, locals' row, branches. -/
/-- the row of a frame's places: each empty or a value -/
abbrev eg_L : Type := List (Option Value)
/-- a cell: a row of a type, its length and what it holds; or a thing of a numbered kind with its fields -/
abbrev eg_C : Type := (FieldType × Nat × (Nat → Value)) ⊕ (Nat × List Value)
/-- numbered cells, the next number, the slots made so far -/
abbrev eg_H : Type := (Nat → Option eg_C) × Nat × Nat
/-- a pool entry: its tag, two numbers, a value -/
abbrev eg_E : Type := Nat × Nat × Nat × Value
/-- a method: its code by places, its pool -/
abbrev eg_M : Type := (Nat → Option (Instr × Nat)) × (Nat → Option eg_E)
/-- static fields that nobody writes, with what they hold; kinds of which rows can be made -/
abbrev eg_Z : Type := List (String × String × String × Value) × List String
/-- a number of a cell stands for its address -/
def eg_cv (ad : Nat → Nat) (v : Value) : Value := match v with
  | .ref k => .ref (ad k)
  | .int x => .int x
  | .long x => .long x
  | .float x => .float x
  | .double x => .double x
  | .null => .null
  | .retAddr x => .retAddr x
theorem eg_cv_cat (ad : Nat → Nat) (v : Value) : (eg_cv ad v).category = v.category := by cases v <;> rfl
theorem eg_no {α : Type} {P : Prop} {x : α} (h : (none : Option α) = some x) : P := by cases h
def eg_i (f : Int32 → Value) (st : List Value) : Option (List Value) := match st with
  | .int x :: r => some (f x :: r)
  | _ => none
def eg_l (f : Int64 → Value) (st : List Value) : Option (List Value) := match st with
  | .long x :: r => some (f x :: r)
  | _ => none
def eg_ii (f : Int32 → Int32 → Value) (st : List Value) : Option (List Value) := match st with
  | .int y :: .int x :: r => some (f x y :: r)
  | _ => none
def eg_ll (f : Int64 → Int64 → Value) (st : List Value) : Option (List Value) := match st with
  | .long y :: .long x :: r => some (f x y :: r)
  | _ => none
def eg_li (f : Int64 → Int32 → Value) (st : List Value) : Option (List Value) := match st with
  | .int y :: .long x :: r => some (f x y :: r)
  | _ => none
def eg_iz (f : Int32 → Int32 → Value) (st : List Value) : Option (List Value) := match st with
  | .int y :: .int x :: r => if y = 0 then none else some (f x y :: r)
  | _ => none
def eg_lz (f : Int64 → Int64 → Value) (st : List Value) : Option (List Value) := match st with
  | .long y :: .long x :: r => if y = 0 then none else some (f x y :: r)
  | _ => none
def eg_d1 (st : List Value) : Option (List Value) := match st with
  | a :: r => if a.category = 1 then some (a :: a :: r) else none
  | _ => none
def eg_dx1 (st : List Value) : Option (List Value) := match st with
  | a :: b :: r => if a.category = 1 ∧ b.category = 1 then some (a :: b :: a :: r) else none
  | _ => none
def eg_dx2 (st : List Value) : Option (List Value) := match st with
  | a :: b :: d :: r => if a.category = 1 ∧ b.category = 1 ∧ d.category = 1 then some (a :: b :: d :: a :: r) else none
  | _ => none
def eg_d2 (st : List Value) : Option (List Value) := match st with
  | a :: b :: r => if a.category = 2 then some (a :: a :: b :: r) else if b.category = 1 then some (a :: b :: a :: b :: r) else none
  | [a] => if a.category = 2 then some [a, a] else none
  | _ => none
def eg_d2x1 (st : List Value) : Option (List Value) := match st with
  | a :: b :: r => if a.category = 2 ∧ b.category = 1 then some (a :: b :: a :: r) else none
  | _ => none
def eg_d2x2 (st : List Value) : Option (List Value) := match st with
  | a :: b :: d :: r => if a.category = 2 ∧ b.category = 1 ∧ d.category = 1 then some (a :: b :: d :: a :: r) else none
  | _ => none
def eg_p1 (st : List Value) : Option (List Value) := match st with
  | a :: r => if a.category = 1 then some r else none
  | _ => none
def eg_p2 (st : List Value) : Option (List Value) := match st with
  | a :: r => if a.category = 2 then some r else none
  | _ => none
/-- what a stack instruction does, and its length -/
def eg_p (i : Instr) (st : List Value) : Option (List Value) := match i with
  | .iconst n => some (.int (Int32.ofInt n) :: st)
  | .bipush n => some (.int (Int8.ofInt n).toInt32 :: st)
  | .sipush n => some (.int (Int16.ofInt n).toInt32 :: st)
  | .lconst n => some (.long (Int64.ofNat (n : Nat)) :: st)
  | .aconst_null => some (.null :: st)
  | .iadd => eg_ii (fun x y => .int (x + y)) st
  | .isub => eg_ii (fun x y => .int (x - y)) st
  | .imul => eg_ii (fun x y => .int (x * y)) st
  | .iand => eg_ii (fun x y => .int (x &&& y)) st
  | .ior => eg_ii (fun x y => .int (x ||| y)) st
  | .ixor => eg_ii (fun x y => .int (x ^^^ y)) st
  | .ishl => eg_ii (fun x y => .int (x <<< (y &&& 31))) st
  | .ishr => eg_ii (fun x y => .int (x >>> (y &&& 31))) st
  | .iushr => eg_ii (fun x y => .int (x.toUInt32 >>> (y.toUInt32 &&& Int32.toUInt32 31)).toInt32) st
  | .idiv => eg_iz (fun x y => .int (x / y)) st
  | .irem => eg_iz (fun x y => .int (x - x / y * y)) st
  | .ineg => eg_i (fun x => .int (-x)) st
  | .ladd => eg_ll (fun x y => .long (x + y)) st
  | .lsub => eg_ll (fun x y => .long (x - y)) st
  | .lmul => eg_ll (fun x y => .long (x * y)) st
  | .land => eg_ll (fun x y => .long (x &&& y)) st
  | .lor => eg_ll (fun x y => .long (x ||| y)) st
  | .lxor => eg_ll (fun x y => .long (x ^^^ y)) st
  | .ldiv => eg_lz (fun x y => .long (x / y)) st
  | .lrem => eg_lz (fun x y => .long (x - x / y * y)) st
  | .lneg => eg_l (fun x => .long (-x)) st
  | .lshl => eg_li (fun x y => .long (x <<< (y.toInt64 &&& 63))) st
  | .lshr => eg_li (fun x y => .long (x >>> (y.toInt64 &&& 63))) st
  | .lushr => eg_li (fun x y => .long (x.toUInt64 >>> (y.toInt64.toUInt64 &&& Int64.toUInt64 63)).toInt64) st
  | .lcmp => eg_ll (fun x y => .int (lg_cmp x y)) st
  | .i2l => eg_i (fun x => .long x.toInt64) st
  | .l2i => eg_l (fun x => .int x.toInt32) st
  | .i2b => eg_i (fun x => .int x.toInt8.toInt32) st
  | .i2s => eg_i (fun x => .int x.toInt16.toInt32) st
  | .i2c => eg_i (fun x => .int (x.toUInt32 % 65536).toInt32) st
  | .dup => eg_d1 st
  | .dup_x1 => eg_dx1 st
  | .dup_x2 => eg_dx2 st
  | .dup2 => eg_d2 st
  | .dup2_x1 => eg_d2x1 st
  | .dup2_x2 => eg_d2x2 st
  | .pop => eg_p1 st
  | .pop2 => eg_p2 st
  | _ => none
def eg_pl (i : Instr) : Nat := match i with
  | .bipush _ => 2
  | .sipush _ => 3
  | _ => 1
section EGP
variable {p : Program} {l : Launch} {e : Env} {R : Room} {s : State} {m : MethodId} {args : Array Value} {below : List Frame} {meth : Method} {c : Code} {H : Heap} {locs : List Loc} {cells slots : Nat} {Q : State → Prop}
variable {cc : ByteArray} {pc pc2 : Nat} {ls : Array Slot} {st st2 : List Value} {ad : Nat → Nat}
theorem eg_i_ok {f : Int32 → Value} (r : ∀ (x : Int32) (rest : List Value), W p l e R s m args below meth c H locs cells slots Q (F0 m pc2 ls (eg_cv ad (f x) :: rest)) → W p l e R s m args below meth c H locs cells slots Q (F0 m pc ls (.int x :: rest))) (h : eg_i f st = some st2)
    (k : W p l e R s m args below meth c H locs cells slots Q (F0 m pc2 ls (st2.map (eg_cv ad)))) : W p l e R s m args below meth c H locs cells slots Q (F0 m pc ls (st.map (eg_cv ad))) := by
  unfold eg_i at h
  split at h
  · cases h
    exact r _ _ k
  · cases h
theorem eg_l_ok {f : Int64 → Value} (r : ∀ (x : Int64) (rest : List Value), W p l e R s m args below meth c H locs cells slots Q (F0 m pc2 ls (eg_cv ad (f x) :: rest)) → W p l e R s m args below meth c H locs cells slots Q (F0 m pc ls (.long x :: rest))) (h : eg_l f st = some st2)
    (k : W p l e R s m args below meth c H locs cells slots Q (F0 m pc2 ls (st2.map (eg_cv ad)))) : W p l e R s m args below meth c H locs cells slots Q (F0 m pc ls (st.map (eg_cv ad))) := by
  unfold eg_l at h
  split at h
  · cases h
    exact r _ _ k
  · cases h
theorem eg_ii_ok {f : Int32 → Int32 → Value} (r : ∀ (x y : Int32) (rest : List Value), W p l e R s m args below meth c H locs cells slots Q (F0 m pc2 ls (eg_cv ad (f x y) :: rest)) → W p l e R s m args below meth c H locs cells slots Q (F0 m pc ls (.int y :: .int x :: rest))) (h : eg_ii f st = some st2)
    (k : W p l e R s m args below meth c H locs cells slots Q (F0 m pc2 ls (st2.map (eg_cv ad)))) : W p l e R s m args below meth c H locs cells slots Q (F0 m pc ls (st.map (eg_cv ad))) := by
  unfold eg_ii at h
  split at h
  · cases h
    exact r _ _ _ k
  · cases h
theorem eg_ll_ok {f : Int64 → Int64 → Value} (r : ∀ (x y : Int64) (rest : List Value), W p l e R s m args below meth c H locs cells slots Q (F0 m pc2 ls (eg_cv ad (f x y) :: rest)) → W p l e R s m args below meth c H locs cells slots Q (F0 m pc ls (.long y :: .long x :: rest))) (h : eg_ll f st = some st2)
    (k : W p l e R s m args below meth c H locs cells slots Q (F0 m pc2 ls (st2.map (eg_cv ad)))) : W p l e R s m args below meth c H locs cells slots Q (F0 m pc ls (st.map (eg_cv ad))) := by
  unfold eg_ll at h
  split at h
  · cases h
    exact r _ _ _ k
  · cases h
theorem eg_li_ok {f : Int64 → Int32 → Value} (r : ∀ (x : Int64) (y : Int32) (rest : List Value), W p l e R s m args below meth c H locs cells slots Q (F0 m pc2 ls (eg_cv ad (f x y) :: rest)) → W p l e R s m args below meth c H locs cells slots Q (F0 m pc ls (.int y :: .long x :: rest))) (h : eg_li f st = some st2)
    (k : W p l e R s m args below meth c H locs cells slots Q (F0 m pc2 ls (st2.map (eg_cv ad)))) : W p l e R s m args below meth c H locs cells slots Q (F0 m pc ls (st.map (eg_cv ad))) := by
  unfold eg_li at h
  split at h
  · cases h
    exact r _ _ _ k
  · cases h
theorem eg_iz_ok {f : Int32 → Int32 → Value} (r : ∀ (x y : Int32) (rest : List Value), ¬ y = 0 → W p l e R s m args below meth c H locs cells slots Q (F0 m pc2 ls (eg_cv ad (f x y) :: rest)) → W p l e R s m args below meth c H locs cells slots Q (F0 m pc ls (.int y :: .int x :: rest))) (h : eg_iz f st = some st2)
    (k : W p l e R s m args below meth c H locs cells slots Q (F0 m pc2 ls (st2.map (eg_cv ad)))) : W p l e R s m args below meth c H locs cells slots Q (F0 m pc ls (st.map (eg_cv ad))) := by
  unfold eg_iz at h
  split at h
  · split at h
    · cases h
    · next hz =>
      cases h
      exact r _ _ _ hz k
  · cases h
theorem eg_lz_ok {f : Int64 → Int64 → Value} (r : ∀ (x y : Int64) (rest : List Value), ¬ y = 0 → W p l e R s m args below meth c H locs cells slots Q (F0 m pc2 ls (eg_cv ad (f x y) :: rest)) → W p l e R s m args below meth c H locs cells slots Q (F0 m pc ls (.long y :: .long x :: rest))) (h : eg_lz f st = some st2)
    (k : W p l e R s m args below meth c H locs cells slots Q (F0 m pc2 ls (st2.map (eg_cv ad)))) : W p l e R s m args below meth c H locs cells slots Q (F0 m pc ls (st.map (eg_cv ad))) := by
  unfold eg_lz at h
  split at h
  · split at h
    · cases h
    · next hz =>
      cases h
      exact r _ _ _ hz k
  · cases h
set_option maxHeartbeats 4000000 in
/-- stack instructions -/
theorem eg_p_ok (hx : p.tables.exec = Jvm.exec) (hb : c.code = cc) {i : Instr} (hd : decode cc pc = .ok (i, eg_pl i)) (h : eg_p i st = some st2)
    (k : W p l e R s m args below meth c H locs cells slots Q (F0 m (pc + eg_pl i) ls (st2.map (eg_cv ad)))) : W p l e R s m args below meth c H locs cells slots Q (F0 m pc ls (st.map (eg_cv ad))) := by
  cases i <;> (try (exact eg_no h))
  case iconst n => cases h; exact lv_iconst hx hb hd rfl k
  case bipush n => cases h; exact lv_bipush hx hb hd rfl k
  case sipush n => cases h; exact lv_sipush hx hb hd rfl k
  case lconst n => cases h; exact lv_lconst hx hb hd rfl k
  case aconst_null => cases h; exact lv_null hx hb hd k
  case iadd => exact eg_ii_ok (fun x y rest k => lv_iadd hx hb hd k) h k
  case isub => exact eg_ii_ok (fun x y rest k => lv_isub hx hb hd k) h k
  case imul => exact eg_ii_ok (fun x y rest k => lv_imul hx hb hd k) h k
  case iand => exact eg_ii_ok (fun x y rest k => lv_iand hx hb hd k) h k
  case ior => exact eg_ii_ok (fun x y rest k => lv_ior hx hb hd k) h k
  case ixor => exact eg_ii_ok (fun x y rest k => lv_ixor hx hb hd k) h k
  case ishl => exact eg_ii_ok (fun x y rest k => lv_ishl hx hb hd k) h k
  case ishr => exact eg_ii_ok (fun x y rest k => lv_ishr hx hb hd k) h k
  case iushr => exact eg_ii_ok (fun x y rest k => lv_iushr hx hb hd rfl k) h k
  case idiv => exact eg_iz_ok (fun x y rest hz k => lv_idiv hx hb hd hz k) h k
  case irem => exact eg_iz_ok (fun x y rest hz k => lv_irem hx hb hd hz k) h k
  case ineg => exact eg_i_ok (fun x rest k => lv_ineg hx hb hd k) h k
  case ladd => exact eg_ll_ok (fun x y rest k => lv_ladd hx hb hd k) h k
  case lsub => exact eg_ll_ok (fun x y rest k => lv_lsub hx hb hd k) h k
  case lmul => exact eg_ll_ok (fun x y rest k => lv_lmul hx hb hd k) h k
  case land => exact eg_ll_ok (fun x y rest k => lv_land hx hb hd k) h k
  case lor => exact eg_ll_ok (fun x y rest k => lv_lor hx hb hd k) h k
  case lxor => exact eg_ll_ok (fun x y rest k => lv_lxor hx hb hd k) h k
  case ldiv => exact eg_lz_ok (fun x y rest hz k => lv_ldiv hx hb hd hz k) h k
  case lrem => exact eg_lz_ok (fun x y rest hz k => lv_lrem hx hb hd hz k) h k
  case lneg => exact eg_l_ok (fun x rest k => lv_lneg hx hb hd k) h k
  case lshl => exact eg_li_ok (fun x y rest k => lv_lshl hx hb hd rfl k) h k
  case lshr => exact eg_li_ok (fun x y rest k => lv_lshr hx hb hd rfl k) h k
  case lushr => exact eg_li_ok (fun x y rest k => lv_lushr hx hb hd rfl k) h k
  case lcmp => exact eg_ll_ok (fun x y rest k => W.lcmp hx hb hd k) h k
  case i2l => exact eg_i_ok (fun x rest k => lv_i2l hx hb hd rfl k) h k
  case l2i => exact eg_l_ok (fun x rest k => lv_l2i hx hb hd rfl k) h k
  case i2b => exact eg_i_ok (fun x rest k => lv_i2b hx hb hd rfl k) h k
  case i2s => exact eg_i_ok (fun x rest k => lv_i2s hx hb hd rfl k) h k
  case i2c => exact eg_i_ok (fun x rest k => lv_i2c hx hb hd rfl k) h k
  case dup =>
    simp only [eg_p, eg_d1] at h
    split at h
    · split at h
      · next ha => cases h; exact lv_dup hx hb hd (by rw [eg_cv_cat]; exact ha) k
      · cases h
    · cases h
  case dup_x1 =>
    simp only [eg_p, eg_dx1] at h
    split at h
    · split at h
      · next ha => cases h; exact lv_dup_x1 hx hb hd (by rw [eg_cv_cat]; exact ha.1) (by rw [eg_cv_cat]; exact ha.2) k
      · cases h
    · cases h
  case dup_x2 =>
    simp only [eg_p, eg_dx2] at h
    split at h
    · split at h
      · next ha => cases h; exact lv_dup_x2 hx hb hd (by rw [eg_cv_cat]; exact ha.1) (by rw [eg_cv_cat]; exact ha.2.1) (by rw [eg_cv_cat]; exact ha.2.2) k
      · cases h
    · cases h
  case dup2 =>
    simp only [eg_p, eg_d2] at h
    split at h
    · split at h
      · next ha => cases h; exact lv_dup2_2 hx hb hd (by rw [eg_cv_cat]; exact ha) k
      · next ha =>
        split at h
        · next hbb =>
          cases h
          refine lv_dup2_11 hx hb hd ?_ (by rw [eg_cv_cat]; exact hbb) k
          rw [eg_cv_cat]
          exact (lv_cat _).resolve_right ha
        · cases h
    · split at h
      · next ha => cases h; exact lv_dup2_2 hx hb hd (by rw [eg_cv_cat]; exact ha) k
      · cases h
    · cases h
  case dup2_x1 =>
    simp only [eg_p, eg_d2x1] at h
    split at h
    · split at h
      · next ha => cases h; exact lv_dup2_x1_2 hx hb hd (by rw [eg_cv_cat]; exact ha.1) (by rw [eg_cv_cat]; exact ha.2) k
      · cases h
    · cases h
  case dup2_x2 =>
    simp only [eg_p, eg_d2x2] at h
    split at h
    · split at h
      · next ha => cases h; exact lv_dup2_x2_2 hx hb hd (by rw [eg_cv_cat]; exact ha.1) (by rw [eg_cv_cat]; exact ha.2.1) (by rw [eg_cv_cat]; exact ha.2.2) k
      · cases h
    · cases h
  case pop =>
    simp only [eg_p, eg_p1] at h
    split at h
    · split at h
      · next ha => cases h; exact lv_pop hx hb hd (by rw [eg_cv_cat]; exact ha) k
      · cases h
    · cases h
  case pop2 =>
    simp only [eg_p, eg_p2] at h
    split at h
    · split at h
      · next ha => cases h; exact lv_pop2_2 hx hb hd (by rw [eg_cv_cat]; exact ha) k
      · cases h
    · cases h
end EGP
