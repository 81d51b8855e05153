/-! THE PURE MACHINE, part 5: instructions on cells -/
def eg_tA (ty : FieldType) : Bool := ty.isReference
/-- what a numbered kind's cell holds at first -/
def eg_blank (ty : Nat → FieldType) (n : Nat) : List Value := (List.range n).map fun j => defaultValue (ty j)
def eg_gf (q : Option eg_E) (st : List Value) (h : eg_H) : Option (List Value × eg_H) := match q with
  | some x => if x.1 = 2 ∨ x.1 = 3 ∨ x.1 = 4 ∨ x.1 = 15 ∨ x.1 = 16 then (match st with
    | .ref a :: r => (match h.1 a with
      | some (.inr o) => if o.1 = x.2.1 then (match o.2[x.2.2.1]? with
        | some v => some (v :: r, h)
        | none => none) else none
      | _ => none)
    | _ => none) else none
  | none => none
def eg_pf (ty : Nat → Nat → FieldType) (K0 : Nat) (q : Option eg_E) (st : List Value) (h : eg_H) : Option (List Value × eg_H) := match q with
  | some x => if x.1 = 2 ∨ x.1 = 3 ∨ x.1 = 4 then (match st with
    | v :: .ref a :: r => (match h.1 a with
      | some (.inr o) => if o.1 = x.2.1 ∧ x.2.2.1 < o.2.length ∧ eg_fit (ty x.2.1 x.2.2.1) v = true ∧ K0 ≤ a then some (r, eg_upd h a (.inr (o.1, o.2.set x.2.2.1 v))) else none
      | _ => none)
    | _ => none) else none
  | none => none
def eg_nw (cl : List vw_C) (ty : Nat → Nat → FieldType) (q : Option eg_E) (st : List Value) (h : eg_H) : Option (List Value × eg_H) := match q with
  | some x => if x.1 = 11 ∨ x.1 = 14 then (match cl[x.2.1]? with
    | some y => some (.ref h.2.1 :: st, eg_mk h (.inr (x.2.1, eg_blank (ty x.2.1) y.2.2)) y.2.2)
    | none => none) else none
  | none => none
def eg_na (t : FieldType) (st : List Value) (h : eg_H) : Option (List Value × eg_H) := match st with
  | .int n :: r => if ¬ n < 0 ∧ n.toNatClampNeg * componentBytes t ≤ 536870912 then some (.ref h.2.1 :: r, eg_mk h (.inl (t, n.toNatClampNeg, fun _ => defaultValue t)) n.toNatClampNeg) else none
  | _ => none
/-- the types of rows that are made here -/
def eg_nt (t : ArrayType) : Bool := match t with
  | .int => true
  | .byte => true
  | .boolean => true
  | .long => true
  | _ => false
def eg_nq (cl : List vw_C) (q : Option eg_E) (st : List Value) (h : eg_H) : Option (List Value × eg_H) := match q with
  | some x => if x.1 = 14 then (match cl[x.2.1]? with
    | some y => eg_na (.object y.1) st h
    | none => none) else none
  | none => none
def eg_kk (t : Nat) (q : Option eg_E) (st : List Value) (h : eg_H) : Option (List Value × eg_H) := match q with
  | some x => if x.1 = t then some (x.2.2.2 :: st, h) else none
  | none => none
def eg_ks (q : Option eg_E) (st : List Value) (h : eg_H) : Option (List Value × eg_H) := match q with
  | some x => if x.1 = 12 ∨ x.1 = 18 then some (x.2.2.2 :: st, h) else none
  | none => none
def eg_oi (q : Option eg_E) (st : List Value) (h : eg_H) : Option (List Value × eg_H) := match q with
  | some x => if x.1 = 13 then (match st with
    | .ref _ :: r => if (r.map fun v => v.category).sum ≤ 8 then some (r, h) else none
    | _ => none) else none
  | none => none
/-- a reference to a thing of the row's kind, or none, put into a row of things -/
def eg_ref (cl : List vw_C) (h : eg_H) (C : String) (v : Value) : Bool := match v with
  | .null => true
  | .ref b => (match h.1 b with
    | some (.inr o) => (match cl[o.1]? with
      | some y => y.1 == C
      | none => false)
    | _ => false)
  | _ => false
def eg_asq (cl : List vw_C) (K0 : Nat) (st : List Value) (h : eg_H) : Option (List Value × eg_H) := match st with
  | v :: .int i :: .ref a :: r => (match h.1 a with
    | some (.inl x) => (match x.1 with
      | .object C => if eg_ref cl h C v = true ∧ eg_in i x.2.1 = true ∧ K0 ≤ a then some (r, eg_upd h a (.inl (x.1, x.2.1, updV x.2.2 i.toNatClampNeg v))) else none
      | _ => none)
    | _ => none)
  | _ => none
def eg_sum (r : List Value) : Nat := (r.map fun v => v.category).sum
def eg_refs (cl : List vw_C) (h : eg_H) (t : FieldType) (f : Nat → Value) (sp n : Nat) : Bool := match t with
  | .object C => (List.range n).all fun i => eg_ref cl h C (f (sp + i))
  | .array _ => false
  | _ => true
/-- a stretch of a row laid into a row of the same type -/
def eg_cp (cl : List vw_C) (K0 : Nat) (q : Option eg_E) (st : List Value) (h : eg_H) : Option (List Value × eg_H) := match q with
  | some x => if x.1 = 17 then (match st with
    | .int n :: .int dp :: .ref d :: .int sp :: .ref a :: r => (match h.1 a, h.1 d with
      | some (.inl x), some (.inl y) => if x.1 = y.1 ∧ ¬ sp < 0 ∧ ¬ dp < 0 ∧ ¬ n < 0 ∧ sp.toNatClampNeg + n.toNatClampNeg ≤ x.2.1 ∧ dp.toNatClampNeg + n.toNatClampNeg ≤ y.2.1 ∧ eg_refs cl h x.1 x.2.2 sp.toNatClampNeg n.toNatClampNeg = true ∧ eg_sum r ≤ 8 ∧ K0 ≤ d then
          some (r, eg_upd h d (.inl (y.1, y.2.1, va_cpy x.2.2 y.2.2 sp.toNatClampNeg dp.toNatClampNeg n.toNatClampNeg))) else none
      | _, _ => none)
    | _ => none) else none
  | none => none
def eg_mx (f : Int32 → Int32 → Int32) (st : List Value) (h : eg_H) : Option (List Value × eg_H) := match st with
  | .int y :: .int x :: r => if eg_sum r ≤ 8 then some (.int (f x y) :: r, h) else none
  | _ => none
def eg_mxl (f : Int64 → Int64 → Int64) (st : List Value) (h : eg_H) : Option (List Value × eg_H) := match st with
  | .long y :: .long x :: r => if eg_sum r ≤ 8 then some (.long (f x y) :: r, h) else none
  | _ => none
/-- Math's max and min -/
def eg_mm (q : Option eg_E) (st : List Value) (h : eg_H) : Option (List Value × eg_H) := match q with
  | some z => if z.1 = 20 then eg_mx (fun x y => if x < y then y else x) st h else if z.1 = 21 then eg_mx (fun x y => if y < x then y else x) st h
    else if z.1 = 22 then eg_mxl (fun x y => if y < x then x else y) st h else if z.1 = 23 then eg_mxl (fun x y => if y < x then y else x) st h else none
  | none => none
/-- calls that are done at once -/
def eg_is (cl : List vw_C) (K0 : Nat) (q : Option eg_E) (st : List Value) (h : eg_H) : Option (List Value × eg_H) := match eg_mm q st h with
  | some r => some r
  | none => eg_cp cl K0 q st h
def eg_h (cl : List vw_C) (ty : Nat → Nat → FieldType) (K0 : Nat) (P : Nat → Option eg_E) (i : Instr) (st : List Value) (h : eg_H) : Option (List Value × eg_H) := match i with
  | .iaload => eg_ald eg_tI st h
  | .laload => eg_ald eg_tJ st h
  | .baload => eg_ald eg_tB st h
  | .caload => eg_ald eg_tC st h
  | .saload => eg_ald eg_tS st h
  | .aaload => eg_ald eg_tA st h
  | .arraylength => eg_len st h
  | .iastore => eg_ast K0 eg_tI eg_isI st h
  | .lastore => eg_ast K0 eg_tJ eg_isJ st h
  | .bastore => eg_ast K0 eg_tB eg_isI st h
  | .sastore => eg_ast K0 eg_tS eg_isI st h
  | .aastore => eg_asq cl K0 st h
  | .getfield j => eg_gf (P j) st h
  | .putfield j => eg_pf ty K0 (P j) st h
  | .new j => eg_nw cl ty (P j) st h
  | .newarray t => if eg_nt t = true then eg_na (newarray.typeOf t) st h else none
  | .anewarray j => eg_nq cl (P j) st h
  | .ldc j => eg_kk 0 (P j) st h
  | .ldc_w j => eg_kk 0 (P j) st h
  | .ldc2_w j => eg_kk 1 (P j) st h
  | .getstatic j => eg_ks (P j) st h
  | .invokespecial j => eg_oi (P j) st h
  | .invokestatic j => eg_is cl K0 (P j) st h
  | _ => none
def eg_hl (i : Instr) : Nat := match i with
  | .getfield _ => 3
  | .putfield _ => 3
  | .new _ => 3
  | .newarray _ => 2
  | .anewarray _ => 3
  | .ldc _ => 2
  | .ldc_w _ => 3
  | .ldc2_w _ => 3
  | .getstatic _ => 3
  | .invokespecial _ => 3
  | .invokestatic _ => 3
  | _ => 1
/-- what is known of the kinds -/
def eg_clok (Ts : List Cond) (cl : List vw_C) (ty : Nat → Nat → FieldType) : Prop := ∀ (ci : Nat) (q : vw_C), cl[ci]? = some q → (∀ w ∈ u_ws q.1 q.2.1 q.2.2, w ∈ Ts) ∧ (∀ k, k < q.2.2 → parseFieldDescriptor (q.2.1 k).2.2.1 = some (ty ci k)) ∧
  (∀ a, a < q.2.2 → ∀ b, b < q.2.2 → a ≠ b → (q.2.1 a).2.1 ≠ (q.2.1 b).2.1) ∧ Cond.instantiable q.1 q.2.2 ∈ Ts ∧ Cond.initialized q.1 ∈ Ts
/-- what the tables say of a pool's entry -/
def eg_pok (Ts Tn : List Cond) (cl : List vw_C) (own : String) (ini : Bool) (Zs : eg_Z) (ix : Nat) (q : eg_E) : Prop :=
  (q.1 = 0 → ∃ x, q.2.2.2 = .int x ∧ Cond.constant own ix x ∈ Ts) ∧
  (q.1 = 1 → ∃ x, q.2.2.2 = .long x ∧ Cond.constantLong own ix x ∈ Ts) ∧
  (q.1 = 2 → ∃ y : vw_C, cl[q.2.1]? = some y ∧ q.2.2.1 < y.2.2 ∧ Cond.fieldLink own ix (y.2.1 q.2.2.1).1 (y.2.1 q.2.2.1).2.1 (y.2.1 q.2.2.1).2.2.1 ∈ Ts ∧ (y.2.1 q.2.2.1).2.2.2 = false) ∧
  (q.1 = 3 → ∃ (y : vw_C) (host : String), cl[q.2.1]? = some y ∧ q.2.2.1 < y.2.2 ∧ Cond.fieldLinkNest own ix (y.2.1 q.2.2.1).1 (y.2.1 q.2.2.1).2.1 (y.2.1 q.2.2.1).2.2.1 host ∈ Tn ∧ (y.2.1 q.2.2.1).2.2.2 = false) ∧
  (q.1 = 4 → ∃ y : vw_C, cl[q.2.1]? = some y ∧ q.2.2.1 < y.2.2 ∧ Cond.fieldLink own ix (y.2.1 q.2.2.1).1 (y.2.1 q.2.2.1).2.1 (y.2.1 q.2.2.1).2.2.1 ∈ Ts ∧ (y.2.1 q.2.2.1).2.2.2 = true ∧ (y.2.1 q.2.2.1).1 = own ∧ ini = true) ∧
  (q.1 = 11 → ∃ y : vw_C, cl[q.2.1]? = some y ∧ Cond.classLink own ix y.1 ∈ Ts) ∧
  (q.1 = 12 → ∃ C n d, (C, n, d, q.2.2.2) ∈ Zs.1 ∧ Cond.fieldLink own ix C n d ∈ Ts) ∧
  (q.1 = 13 → Cond.methodLink own ix objectInit ∈ Ts ∧ Cond.instanceMethod objectInit ∈ Ts ∧ Cond.code objectInit ⟨#[0xb1]⟩ 1 none ∈ Ts) ∧
  (q.1 = 14 → ∃ y : vw_C, cl[q.2.1]? = some y ∧ Cond.classLink own ix y.1 ∈ Ts ∧ y.1 ∈ Zs.2) ∧
  (q.1 = 15 → ∃ y : vw_C, cl[q.2.1]? = some y ∧ q.2.2.1 < y.2.2 ∧ Cond.fieldLink own ix (y.2.1 q.2.2.1).1 (y.2.1 q.2.2.1).2.1 (y.2.1 q.2.2.1).2.2.1 ∈ Ts) ∧
  (q.1 = 16 → ∃ (y : vw_C) (host : String), cl[q.2.1]? = some y ∧ q.2.2.1 < y.2.2 ∧ Cond.fieldLinkNest own ix (y.2.1 q.2.2.1).1 (y.2.1 q.2.2.1).2.1 (y.2.1 q.2.2.1).2.2.1 host ∈ Tn) ∧
  (q.1 = 17 → Cond.methodLink own ix arraycopyName ∈ Ts ∧ Cond.native arraycopyName ∈ Ts ∧ Cond.static arraycopyName ∈ Ts ∧ Cond.initialized "java/lang/System" ∈ Ts) ∧
  (q.1 = 18 → ∃ C n d host, (C, n, d, q.2.2.2) ∈ Zs.1 ∧ Cond.fieldLinkNest own ix C n d host ∈ Tn) ∧
  (q.1 = 20 → Cond.methodLink own ix Lib.Math.max.name ∈ Ts ∧ Cond.static Lib.Math.max.name ∈ Ts ∧ Cond.initialized "java/lang/Math" ∈ Ts ∧ Cond.code Lib.Math.max.name Lib.Math.max.code 2 (some .int) ∈ Ts) ∧
  (q.1 = 21 → Cond.methodLink own ix Lib.Math.min.name ∈ Ts ∧ Cond.static Lib.Math.min.name ∈ Ts ∧ Cond.initialized "java/lang/Math" ∈ Ts ∧ Cond.code Lib.Math.min.name Lib.Math.min.code 2 (some .int) ∈ Ts) ∧
  (q.1 = 22 → Cond.methodLink own ix Lib.MathLoose.max_long.x ∈ Ts ∧ Cond.static Lib.MathLoose.max_long.x ∈ Ts ∧ Cond.initialized "java/lang/Math" ∈ Ts ∧ Cond.code Lib.MathLoose.max_long.x Lib.MathLoose.max_long.code 4 (some .long) ∈ Ts) ∧
  (q.1 = 23 → Cond.methodLink own ix Lib.MathLoose.min_long.x ∈ Ts ∧ Cond.static Lib.MathLoose.min_long.x ∈ Ts ∧ Cond.initialized "java/lang/Math" ∈ Ts ∧ Cond.code Lib.MathLoose.min_long.x Lib.MathLoose.min_long.code 4 (some .long) ∈ Ts)
section EGH
variable {p : Program} {l : Launch} {e : Env} {R : Room} {s : State} {m : MethodId} {args : Array Value} {below : List Frame} {meth : Method} {c : Code} {H : Heap} {locs : List Loc} {cells slots : Nat} {Q : State → Prop}
variable {cc : ByteArray} {pc : Nat} {ls : Array Slot} {st st2 : List Value} {ad : Nat → Nat} {D : va_G} {cl : List vw_C} {ty : Nat → Nat → FieldType} {K0 base : Nat} {h h2 : eg_H} {B : Heap} {Ts Tn : List Cond} {own : String} {ini : Bool} {Zs : eg_Z}
/-- loads: what the row holds comes on the stack -/
theorem eg_ald_ok {t : FieldType → Bool} (hR : eg_R D cl ad K0 base s h H) (hs : eg_ald t st h = some (st2, h2))
    (row : ∀ (a : Addr) (cell : Cell) (j : Int32) (v : Value) (rest : List Value) (ty : FieldType), t ty = true → H[a]? = some cell → s.isArrayOf cell ty → cell.vm ≠ .unknown → ¬ (j < 0 ∨ cell.slots.size ≤ j.toNatClampNeg) → cell.slots[j.toNatClampNeg]? = some v →
      W p l e R s m args below meth c H locs cells slots Q (F0 m (pc + 1) ls (v :: rest)) → W p l e R s m args below meth c H locs cells slots Q (F0 m pc ls (.int j :: .ref a :: rest)))
    (k : h2 = h → W p l e R s m args below meth c H locs cells slots Q (F0 m (pc + 1) ls (st2.map (eg_cv ad)))) : W p l e R s m args below meth c H locs cells slots Q (F0 m pc ls (st.map (eg_cv ad))) := by
  unfold eg_ald at hs
  split at hs
  · next i a r =>
    split at hs
    · next x hx =>
      split at hs
      · next hc =>
        cases hs
        obtain ⟨cell, h1, h2, h3, h4, h5, -⟩ := (hR.1 a _ hx).2
        obtain ⟨q1, q2⟩ := eg_in_ok hc.2
        exact row (ad a) cell i _ _ x.1 hc.1 h1 h2 h3 (fun q => q.elim (fun z => q1 (Or.inl z)) (fun z => q1 (Or.inr (Nat.le_trans h4.1 z)))) (h5 _ q2) (k rfl)
      · cases hs
    · cases hs
  · cases hs
/-- stores -/
theorem eg_ast_ok {t : FieldType → Bool} {w : Value → Bool} (hfw : ∀ ty v, t ty = true → w v = true → fits ty (narrow ty v) = true) (had : eg_ad ad K0 base) (hR : eg_R D cl ad K0 base s h H) (hS : va_S (fun q => base ≤ q) B H locs) (hs : eg_ast K0 t w st h = some (st2, h2))
    (row : ∀ (a : Addr) (cell : Cell) (j : Int32) (v : Value) (rest : List Value) (ty : FieldType), t ty = true → w v = true → H[a]? = some cell → s.isArrayOf cell ty → cell.vm ≠ .unknown → ¬ (j < 0 ∨ cell.slots.size ≤ j.toNatClampNeg) →
      (∀ H1 : Heap, H1[a]? = some (cell.setSlot j.toNatClampNeg (eg_cv ad (narrow ty v))) → H1.size = H.size → (∀ q, q ≠ a → H1[q]? = H[q]?) → W p l e R s m args below meth c H1 (locs ++ [⟨a, j.toNatClampNeg⟩]) cells slots Q (F0 m (pc + 1) ls rest)) →
      W p l e R s m args below meth c H locs cells slots Q (F0 m pc ls (eg_cv ad v :: .int j :: .ref a :: rest)))
    (k : ∀ (H1 : Heap) (locs1 : List Loc), eg_R D cl ad K0 base s h2 H1 → va_S (fun q => base ≤ q) B H1 locs1 → h2.2 = h.2 → W p l e R s m args below meth c H1 locs1 cells slots Q (F0 m (pc + 1) ls (st2.map (eg_cv ad)))) : W p l e R s m args below meth c H locs cells slots Q (F0 m pc ls (st.map (eg_cv ad))) := by
  unfold eg_ast at hs
  split at hs
  · next v i a r =>
    split at hs
    · next x hx =>
      split at hs
      · next hc =>
        cases hs
        obtain ⟨cell, h1, h2, h3, h4, h5, h6, h7⟩ := (hR.1 a _ hx).2
        obtain ⟨q1, q2⟩ := eg_in_ok hc.2.2.1
        refine row (ad a) cell i v _ x.1 hc.1 hc.2.1 h1 h2 h3 (fun q => q.elim (fun z => q1 (Or.inl z)) (fun z => q1 (Or.inr (Nat.le_trans h4.1 z)))) (fun H1 e1 z oq => ?_)
        refine k H1 _ (hR.put had hx hc.2.2.2 z oq (eg_cr_set h2 h3 h4 h5 h6 h7 (hfw _ _ hc.1 hc.2.1) q2 e1)) (hS.put z oq ?_) rfl
        show base ≤ ad a
        rw [(had a).2 hc.2.2.2]
        omega
      · cases hs
    · cases hs
  · cases hs
/-- a thing's field comes on the stack -/
theorem eg_gf_ok (hx : p.tables.exec = Jvm.exec) (hb : c.code = cc) (hts : ∀ w ∈ Ts, w.before args s = true) (htn : ∀ w ∈ Tn, w.before args s = true) (hcl : eg_clok Ts cl ty) (hown : s.vm.findClass own = some m.cls) (hK : va_K D cl [] s) (hR : eg_R D cl ad K0 base s h H) {ix : Nat} {q : Option eg_E} (hq : ∀ x, q = some x → eg_pok Ts Tn cl own ini Zs ix x)
    (hd : decode cc pc = .ok (.getfield ix, 3)) (hs : eg_gf q st h = some (st2, h2)) (k : h2 = h → W p l e R s m args below meth c H locs cells slots Q (F0 m (pc + 3) ls (st2.map (eg_cv ad)))) : W p l e R s m args below meth c H locs cells slots Q (F0 m pc ls (st.map (eg_cv ad))) := by
  unfold eg_gf at hs
  split at hs
  · next x =>
    have pk := hq x rfl
    split at hs
    · next ht =>
      split at hs
      · next a r =>
        split at hs
        · next o ho =>
          split at hs
          · next hci =>
            split at hs
            · next v hv =>
              cases hs
              obtain ⟨-, -, p2, p3, p4, -, -, -, -, p15, p16, -⟩ := pk
              obtain ⟨r0, hr0, hob⟩ := (hR.1 a _ ho).2
              have hP : va_P D cl [(ad a, .inr (o.1, o.2.map (eg_cv ad)))] H := by
                intro j z hz
                match j, hz with
                | 0, hz => cases hz; exact ⟨r0, hr0, hob⟩
                | j + 1, hz => simp at hz
              have hv2 : (o.2.map (eg_cv ad))[x.2.2.1]? = some (eg_cv ad v) := by rw [List.getElem?_map, hv]; rfl
              rcases ht with t | t | t | t | t
              · obtain ⟨y, hy, hlt, hln, -⟩ := p2 t
                exact va_get (ci := o.1) (C := y.1) (T := y.2.1) (N := y.2.2) hx hb hts (hcl _ _ hy).1 hown hK hP 0 rfl (by rw [hci]; exact hy) x.2.2.1 hlt (hts _ hln) (fun _ h9 => h9) hv2 hd (k rfl)
              · obtain ⟨y, host, hy, hlt, hln, -⟩ := p3 t
                exact va_getN (ci := o.1) (C := y.1) (T := y.2.1) (N := y.2.2) hx hb hts (hcl _ _ hy).1 hown hK hP 0 rfl (by rw [hci]; exact hy) x.2.2.1 hlt (htn _ hln) (fun _ h9 => h9) hv2 hd (k rfl)
              · obtain ⟨y, hy, hlt, hln, -⟩ := p4 t
                exact va_get (ci := o.1) (C := y.1) (T := y.2.1) (N := y.2.2) hx hb hts (hcl _ _ hy).1 hown hK hP 0 rfl (by rw [hci]; exact hy) x.2.2.1 hlt (hts _ hln) (fun _ h9 => h9) hv2 hd (k rfl)
              · obtain ⟨y, hy, hlt, hln⟩ := p15 t
                exact va_get (ci := o.1) (C := y.1) (T := y.2.1) (N := y.2.2) hx hb hts (hcl _ _ hy).1 hown hK hP 0 rfl (by rw [hci]; exact hy) x.2.2.1 hlt (hts _ hln) (fun _ h9 => h9) hv2 hd (k rfl)
              · obtain ⟨y, host, hy, hlt, hln⟩ := p16 t
                exact va_getN (ci := o.1) (C := y.1) (T := y.2.1) (N := y.2.2) hx hb hts (hcl _ _ hy).1 hown hK hP 0 rfl (by rw [hci]; exact hy) x.2.2.1 hlt (htn _ hln) (fun _ h9 => h9) hv2 hd (k rfl)
            · cases hs
          · cases hs
        · cases hs
      · cases hs
    · cases hs
  · cases hs
/-- a thing's field is set -/
theorem eg_pf_ok (hx : p.tables.exec = Jvm.exec) (hb : c.code = cc) (hts : ∀ w ∈ Ts, w.before args s = true) (htn : ∀ w ∈ Tn, w.before args s = true) (hcl : eg_clok Ts cl ty) (hown : s.vm.findClass own = some m.cls) (hini : ini = true → meth.name = "<init>") (hK : va_K D cl [] s) (had : eg_ad ad K0 base) (hR : eg_R D cl ad K0 base s h H) (hS : va_S (fun q => base ≤ q) B H locs) {ix : Nat} {q : Option eg_E} (hq : ∀ x, q = some x → eg_pok Ts Tn cl own ini Zs ix x)
    (hd : decode cc pc = .ok (.putfield ix, 3)) (hs : eg_pf ty K0 q st h = some (st2, h2)) (k : ∀ (H1 : Heap) (locs1 : List Loc), eg_R D cl ad K0 base s h2 H1 → va_S (fun q => base ≤ q) B H1 locs1 → h2.2 = h.2 → W p l e R s m args below meth c H1 locs1 cells slots Q (F0 m (pc + 3) ls (st2.map (eg_cv ad)))) : W p l e R s m args below meth c H locs cells slots Q (F0 m pc ls (st.map (eg_cv ad))) := by
  unfold eg_pf at hs
  split at hs
  · next x =>
    have pk := hq x rfl
    split at hs
    · next ht =>
      split at hs
      · next v a r =>
        split at hs
        · next o ho =>
          split at hs
          · next hc =>
            cases hs
            obtain ⟨tg, ci, kf, vv⟩ := x
            obtain ⟨oc, ofs⟩ := o
            obtain ⟨hci, hlen, hfit, hKa⟩ := hc
            dsimp only at hci hlen hfit ht pk
            subst hci
            obtain ⟨-, -, p2, p3, p4, -⟩ := pk
            obtain ⟨r0, hr0, cell, q1, q2, q3, q4⟩ := (hR.1 a _ ho).2
            obtain ⟨fn, ff⟩ := eg_fit_ok ad hfit
            have hba : base ≤ ad a := by rw [(had a).2 hKa]; omega
            have fin : kf < r0.2.2 → ∀ (H1 : Heap) (i9 : Nat), H1[ad a]? = some (cell.setSlot (D.2 oc kf) (eg_cv ad v)) → H1.size = H.size → (∀ q, q ≠ ad a → H1[q]? = H[q]?) → W p l e R s m args below meth c H1 (locs ++ [⟨ad a, i9⟩]) cells slots Q (F0 m (pc + 3) ls (st2.map (eg_cv ad))) := by
              intro hlt H1 i9 e1 z oq
              have hap := va_apart (own := own) (D := D) hts (hcl _ _ hr0).1 (ty oc) (hcl _ _ hr0).2.1 (hcl _ _ hr0).2.2.1 hK hr0
              refine k H1 _ (hR.put had ho hKa z oq ⟨r0, hr0, t_OB.to (V := updV (vp_V (ofs.map (eg_cv ad))) kf (eg_cv ad v)) ⟨_, e1, q2, q3, t_set q4 hap hlt (eg_cv ad v)⟩ (fun j _ => ?_)⟩) (hS.put z oq hba) rfl
              rw [vp_updV_set (by simpa using hlen)]
              show vp_V _ j = vp_V ((ofs.set kf v).map (eg_cv ad)) j
              rw [List.map_set]
            obtain ⟨hSl, hfc, kC, hkC, hkind⟩ := hK.1 oc _ hr0
            rcases ht with t | t | t
            · obtain ⟨y, hy, hlt, hln, hfin⟩ := p2 t
              have hry : r0 = y := Option.some.inj (hr0.symm.trans hy)
              subst hry
              obtain ⟨cf, kf', fi, f, hi, hsl⟩ := hSl kf hlt
              have hlay := hts _ ((hcl _ _ hr0).1 _ (u_in_lay hlt))
              unfold u_lay at hlay
              rw [if_neg (by rw [hfin]; decide)] at hlay
              have hst := (u_facts hfc hkC (u_lays hts (hcl _ _ hr0).1 hlt) hi).1
              have h6 := u_store hfc hkC hkind hlay hi ((hcl _ _ hr0).2.1 kf hlt) fn ff
              refine W.putK hx hb (f := f) ⟨hown, hts _ hln, ⟨_, _, _, hi⟩, hst⟩ (by rw [q2]; exact h6) q1 q3 (by rw [hsl]; exact k2_hasslot (q4 kf hlt)) rfl rfl hd fun H1 e1 e2 e3 => ?_
              rw [hsl] at e1 ⊢
              exact fin hlt H1 _ e1 e2 e3
            · obtain ⟨y, host, hy, hlt, hln, hfin⟩ := p3 t
              have hry : r0 = y := Option.some.inj (hr0.symm.trans hy)
              subst hry
              obtain ⟨cf, kf', fi, f, hi, hsl⟩ := hSl kf hlt
              have hlay := hts _ ((hcl _ _ hr0).1 _ (u_in_lay hlt))
              unfold u_lay at hlay
              rw [if_neg (by rw [hfin]; decide)] at hlay
              have hst := (u_facts hfc hkC (u_lays hts (hcl _ _ hr0).1 hlt) hi).1
              have h6 := u_store hfc hkC hkind hlay hi ((hcl _ _ hr0).2.1 kf hlt) fn ff
              refine va_WputK hx hb (f := f) hown (htn _ hln) hi hst (by rw [q2]; exact h6) q1 q3 (by rw [hsl]; exact k2_hasslot (q4 kf hlt)) rfl rfl hd fun H1 e1 e2 e3 => ?_
              rw [hsl] at e1 ⊢
              exact fin hlt H1 _ e1 e2 e3
            · obtain ⟨y, hy, hlt, hln, hfin, hdecl, hi9⟩ := p4 t
              have hry : r0 = y := Option.some.inj (hr0.symm.trans hy)
              subst hry
              obtain ⟨cf, kf', fi, f, hi, hsl⟩ := hSl kf hlt
              have hlay := hts _ ((hcl _ _ hr0).1 _ (u_in_lay hlt))
              unfold u_lay at hlay
              rw [if_pos hfin] at hlay
              have hst := (u_facts hfc hkC (u_lays hts (hcl _ _ hr0).1 hlt) hi).1
              have hcf : m.cls = cf := by
                obtain ⟨_, _, c', _, _, _, -, -, hf', -, -, -, hown2, -⟩ := Cond.laysFinal_spec hlay
                have e1 : c' = cf := by have := hi.symm.trans hf'; simp at this; exact this.1.symm
                rw [hdecl] at hown2
                rw [← e1]; exact Option.some.inj (hown.symm.trans hown2)
              have h6 := u_fits hfc hkC hkind (Or.inr hlay) hi ((hcl _ _ hr0).2.1 kf hlt) fn ff
              refine W.putFinK hx hb hown (hts _ hln) hi hst hcf (hini hi9) (by rw [q2]; exact h6) q1 q3 (by rw [hsl]; exact k2_hasslot (q4 kf hlt)) rfl rfl hd fun H1 e1 e2 e3 => ?_
              rw [hsl] at e1 ⊢
              exact fin hlt H1 _ e1 e2 e3
          · cases hs
        · cases hs
      · cases hs
    · cases hs
  · cases hs
theorem eg_blank_at {t : Nat → FieldType} {n j : Nat} (ad : Nat → Nat) (hj : j < n) : defaultValue (t j) = vp_V ((eg_blank t n).map (eg_cv ad)) j := by
  have e : ((eg_blank t n).map (eg_cv ad))[j]? = some (eg_cv ad (defaultValue (t j))) := by
    rw [List.getElem?_map, eg_blank, List.getElem?_map, List.getElem?_range hj]; rfl
  have e2 : eg_cv ad (defaultValue (t j)) = defaultValue (t j) := by cases t j <;> rfl
  simp [vp_V, List.getD, e, e2]
/-- a new thing -/
theorem eg_nw_ok (hx : p.tables.exec = Jvm.exec) (hb : c.code = cc) (hts : ∀ w ∈ Ts, w.before args s = true) (hcl : eg_clok Ts cl ty) (hown : s.vm.findClass own = some m.cls) (hK : va_K D cl [] s) (had : eg_ad ad K0 base) (hR : eg_R D cl ad K0 base s h H) (hS : va_S (fun q => base ≤ q) B H locs) {ix : Nat} {q : Option eg_E} (hq : ∀ x, q = some x → eg_pok Ts Tn cl own ini Zs ix x)
    (hd : decode cc pc = .ok (.new ix, 3)) (hs : eg_nw cl ty q st h = some (st2, h2)) (hc1 : cells + (h2.2.1 - h.2.1) ≤ R.cells) (hc2 : slots + (h2.2.2 - h.2.2) ≤ R.slots)
    (k : ∀ (H1 : Heap) (locs1 : List Loc), eg_R D cl ad K0 base s h2 H1 → va_S (fun q => base ≤ q) B H1 locs1 → W p l e R s m args below meth c H1 locs1 (cells + (h2.2.1 - h.2.1)) (slots + (h2.2.2 - h.2.2)) Q (F0 m (pc + 3) ls (st2.map (eg_cv ad)))) : W p l e R s m args below meth c H locs cells slots Q (F0 m pc ls (st.map (eg_cv ad))) := by
  unfold eg_nw at hs
  split at hs
  · next x =>
    have pk := hq x rfl
    split at hs
    · next ht =>
      split at hs
      · next y hy =>
        cases hs
        obtain ⟨-, -, -, -, -, p11, -, -, p14, -⟩ := pk
        obtain ⟨y2, hy2, hln⟩ : ∃ y : vw_C, cl[x.2.1]? = some y ∧ Cond.classLink own ix y.1 ∈ Ts := by
          rcases ht with ht | ht
          · exact p11 ht
          · obtain ⟨y2, g1, g2, -⟩ := p14 ht
            exact ⟨y2, g1, g2⟩
        have hyy : y = y2 := Option.some.inj (hy.symm.trans hy2)
        subst hyy
        obtain ⟨w1, w2, w3, w4, w5⟩ := hcl _ _ hy
        have hKn := hK.1 _ _ hy
        have en : (eg_mk h (.inr (x.2.1, eg_blank (ty x.2.1) y.2.2)) y.2.2).2.1 - h.2.1 = 1 := by simp only [eg_mk]; omega
        have es : (eg_mk h (.inr (x.2.1, eg_blank (ty x.2.1) y.2.2)) y.2.2).2.2 - h.2.2 = y.2.2 := by simp only [eg_mk]; omega
        rw [en, es] at k
        rw [en] at hc1
        rw [es] at hc2
        refine W.newcK hx hb hown (hts _ hln) (hts _ w4) (hts _ w5) rfl hd hc1 hc2 hKn.2.1 rfl fun H1 kC hkC e1 z1 o1 => ?_
        have hat := hR.at had
        have hz := hS.1
        refine W.eq ?_ (k H1 locs (hR.mk z1 o1 ⟨y, hy, ?_⟩) ⟨by omega, fun q g1 g2 => (o1 q (by omega)).trans (hS.2.1 q g1 g2), hS.2.2⟩)
        · show F0 m (pc + 3) ls (Value.ref H.size :: st.map (eg_cv ad)) = F0 m (pc + 3) ls (Value.ref (ad h.2.1) :: st.map (eg_cv ad))
          rw [hat]
        · rw [hat]
          exact (u_born (ty x.2.1) hts w1 hKn hkC e1 w2).to (fun j hj => eg_blank_at ad hj)
      · cases hs
    · cases hs
  · cases hs
/-- a new row of numbers -/
theorem eg_na_ok (hx : p.tables.exec = Jvm.exec) (hb : c.code = cc) {t : ArrayType} (harr : (Cond.arrayClass (newarray.typeOf t)).before args s = true) (had : eg_ad ad K0 base) (hR : eg_R D cl ad K0 base s h H) (hS : va_S (fun q => base ≤ q) B H locs)
    (hd : decode cc pc = .ok (.newarray t, 2)) (hs : eg_na (newarray.typeOf t) st h = some (st2, h2)) (hc1 : cells + (h2.2.1 - h.2.1) ≤ R.cells) (hc2 : slots + (h2.2.2 - h.2.2) ≤ R.slots)
    (k : ∀ (H1 : Heap) (locs1 : List Loc), eg_R D cl ad K0 base s h2 H1 → va_S (fun q => base ≤ q) B H1 locs1 → W p l e R s m args below meth c H1 locs1 (cells + (h2.2.1 - h.2.1)) (slots + (h2.2.2 - h.2.2)) Q (F0 m (pc + 2) ls (st2.map (eg_cv ad)))) : W p l e R s m args below meth c H locs cells slots Q (F0 m pc ls (st.map (eg_cv ad))) := by
  unfold eg_na at hs
  split at hs
  · next n r =>
    split at hs
    · next hc =>
      cases hs
      generalize hx9 : (Sum.inl (newarray.typeOf t, n.toNatClampNeg, fun _ => defaultValue (newarray.typeOf t)) : eg_C) = x9 at k hc1 hc2
      have en : (eg_mk h x9 n.toNatClampNeg).2.1 - h.2.1 = 1 := by simp only [eg_mk]; omega
      have es : (eg_mk h x9 n.toNatClampNeg).2.2 - h.2.2 = n.toNatClampNeg := by simp only [eg_mk]; omega
      rw [en, es] at k
      rw [en] at hc1
      rw [es] at hc2
      refine va_newaK hx hb harr rfl hd rfl hc.1 rfl hc.2 hc1 hc2 rfl fun H1 cA e1 z1 o1 hAr hNm => ?_
      have hat := hR.at had
      have hz := hS.1
      refine W.eq ?_ (k H1 locs (hR.mk z1 o1 ?_) ⟨by omega, fun q g1 g2 => (o1 q (by omega)).trans (hS.2.1 q g1 g2), hS.2.2⟩)
      · show F0 m (pc + 2) ls (Value.ref H.size :: r.map (eg_cv ad)) = F0 m (pc + 2) ls (Value.ref (ad h.2.1) :: r.map (eg_cv ad))
        rw [hat]
      · subst hx9
        refine ⟨_, by rw [hat]; exact e1, hAr _ _, (fun q => by cases q), ⟨Nat.le_of_eq (arrV_size _ _ _).symm, by rw [arrV_size] <;> rfl⟩, fun j hj => ?_, fun C hC => ?_, fun j hj => ?_⟩
        · rw [arrV_read _ _ hj]
          cases t <;> rfl
        · cases t <;> cases hC
        · cases t <;> rfl
    · cases hs
  · cases hs
/-- a new row of things -/
theorem eg_nq_ok (hAO : ∀ C ∈ Zs.2, va_AO C s) (hx : p.tables.exec = Jvm.exec) (hb : c.code = cc) (hts : ∀ w ∈ Ts, w.before args s = true) (hown : s.vm.findClass own = some m.cls) (had : eg_ad ad K0 base) (hR : eg_R D cl ad K0 base s h H) (hS : va_S (fun q => base ≤ q) B H locs) {ix : Nat} {q : Option eg_E} (hq : ∀ x, q = some x → eg_pok Ts Tn cl own ini Zs ix x)
    (hd : decode cc pc = .ok (.anewarray ix, 3)) (hs : eg_nq cl q st h = some (st2, h2)) (hc1 : cells + (h2.2.1 - h.2.1) ≤ R.cells) (hc2 : slots + (h2.2.2 - h.2.2) ≤ R.slots)
    (k : ∀ (H1 : Heap) (locs1 : List Loc), eg_R D cl ad K0 base s h2 H1 → va_S (fun q => base ≤ q) B H1 locs1 → W p l e R s m args below meth c H1 locs1 (cells + (h2.2.1 - h.2.1)) (slots + (h2.2.2 - h.2.2)) Q (F0 m (pc + 3) ls (st2.map (eg_cv ad)))) : W p l e R s m args below meth c H locs cells slots Q (F0 m pc ls (st.map (eg_cv ad))) := by
  unfold eg_nq at hs
  split at hs
  · next x =>
    have pk := hq x rfl
    split at hs
    · next ht =>
      split at hs
      · next y hy =>
        obtain ⟨-, -, -, -, -, -, -, -, p14, -⟩ := pk
        obtain ⟨y2, hy2, hln, hov⟩ := p14 ht
        have hyy : y = y2 := Option.some.inj (hy.symm.trans hy2)
        subst hyy
        unfold eg_na at hs
        split at hs
        · next n r =>
          split at hs
          · next hc =>
            cases hs
            generalize hx9 : (Sum.inl (FieldType.object y.1, n.toNatClampNeg, fun _ => defaultValue (FieldType.object y.1)) : eg_C) = x9 at k hc1 hc2
            have en : (eg_mk h x9 n.toNatClampNeg).2.1 - h.2.1 = 1 := by simp only [eg_mk]; omega
            have es : (eg_mk h x9 n.toNatClampNeg).2.2 - h.2.2 = n.toNatClampNeg := by simp only [eg_mk]; omega
            rw [en, es] at k
            rw [en] at hc1
            rw [es] at hc2
            refine W.anew hx hb hown (hts _ hln) (va_AO.use (hAO _ hov)) rfl hd rfl hc.1 hc.2 hc1 hc2 fun cA kA comp f1 f2 f3 f4 => ?_
            have hat := hR.at had
            have hz := hS.1
            generalize hH1 : H.push ({ cls := cA, slots := Array.replicate n.toNatClampNeg .null, vm := .none } : Cell) = H1
            have z1 : H1.size = H.size + 1 := by rw [← hH1, Array.size_push]
            have e1 : H1[H.size]? = some (arrV cA n.toNatClampNeg (fun _ => .null)) := by rw [← hH1, Array.getElem?_push_size, ← arrV_new]
            have o1 : ∀ q : Nat, q < H.size → H1[q]? = H[q]? := fun q hq => by rw [← hH1, Array.getElem?_push, if_neg (Nat.ne_of_lt hq)]
            refine W.eq ?_ (k H1 locs (hR.mk z1 o1 ?_) ⟨by omega, fun q g1 g2 => (o1 q (by omega)).trans (hS.2.1 q g1 g2), hS.2.2⟩)
            · show F0 m (pc + 3) ls (Value.ref H.size :: r.map (eg_cv ad)) = F0 m (pc + 3) ls (Value.ref (ad h.2.1) :: r.map (eg_cv ad))
              rw [hat]
            · subst hx9
              refine ⟨_, by rw [hat]; exact e1, ⟨(fun k h => by cases h), kA, f2, comp, f3⟩, (fun q => by cases q), ⟨Nat.le_of_eq (arrV_size _ _ _).symm, by rw [arrV_size] <;> rfl⟩, fun j hj => ?_, fun C hC => ?_, fun j hj => rfl⟩
              · rw [arrV_read _ _ hj]
                rfl
              · exact ⟨kA, comp, f2, f3, f4, f1⟩
          · cases hs
        · cases hs
      · cases hs
    · cases hs
  · cases hs
/-- a thing, or none, put into a row of things -/
theorem eg_asq_ok (hx : p.tables.exec = Jvm.exec) (hb : c.code = cc) (hK : va_K D cl [] s) (had : eg_ad ad K0 base) (hR : eg_R D cl ad K0 base s h H) (hS : va_S (fun q => base ≤ q) B H locs)
    (hd : decode cc pc = .ok (.aastore, 1)) (hs : eg_asq cl K0 st h = some (st2, h2))
    (k : ∀ (H1 : Heap) (locs1 : List Loc), eg_R D cl ad K0 base s h2 H1 → va_S (fun q => base ≤ q) B H1 locs1 → h2.2 = h.2 → W p l e R s m args below meth c H1 locs1 cells slots Q (F0 m (pc + 1) ls (st2.map (eg_cv ad)))) : W p l e R s m args below meth c H locs cells slots Q (F0 m pc ls (st.map (eg_cv ad))) := by
  unfold eg_asq at hs
  split at hs
  · next v i a r =>
    split at hs
    · next x hxa =>
      obtain ⟨tx, nx, fx⟩ := x
      dsimp only at hs
      split at hs
      · next C =>
        split at hs
        · next hc =>
          cases hs
          obtain ⟨hr, hin, hKa⟩ := hc
          obtain ⟨cell, h1, h2, h3, h4, h5, h6, h7⟩ := (hR.1 a _ hxa).2
          obtain ⟨q1, q2⟩ := eg_in_ok hin
          dsimp only at h2 h4 h5 h6 h7 q1 q2
          have hba : base ≤ ad a := by rw [(had a).2 hKa]; omega
          unfold eg_ref at hr
          split at hr
          · refine va_WaastN (C := C) hx hb h1 h2 h3 (fun q => q.elim (fun z => q1 (Or.inl z)) (fun z => q1 (Or.inr (Nat.le_trans h4.1 z)))) rfl rfl hd fun H1 e1 z oq => ?_
            exact k H1 _ (hR.put had hxa hKa z oq (eg_cr_set (v := .null) h2 h3 h4 h5 h6 h7 rfl q2 e1)) (hS.put z oq hba) rfl
          · next b =>
            split at hr
            · next o ho =>
              split at hr
              · next y hy =>
                have hyC : y.1 = C := by simpa using hr
                subst hyC
                obtain ⟨r', hr', cellV, g1, g2, g3, -⟩ := (hR.1 b _ ho).2
                have hcls := (hK.1 o.1 y hy).2
                obtain ⟨kA, comp, k1, k2, k3, -⟩ := h6 y.1 rfl
                have hcomp : comp = D.1 o.1 := Option.some.inj (k3.symm.trans hcls.1)
                subst hcomp
                obtain ⟨kC, hkC, -⟩ := hcls.2
                refine W.aast hx hb h1 h2.1 h3 k1 k2 rfl hkC ⟨fun z => q1 (Or.inl z), Nat.lt_of_lt_of_le q2 h4.1⟩ g1 (fun q h => by rw [g3] at h; cases h) (by rw [g2]; exact hkC) (by rw [g2]; exact va_assign hcls) rfl rfl hd fun H1 e1 z oq => ?_
                exact k H1 _ (hR.put had hxa hKa z oq (eg_cr_set (v := .ref b) h2 h3 h4 h5 h6 h7 rfl q2 e1)) (hS.put z oq hba) rfl
              · cases hr
            · cases hr
          · cases hr
        · cases hs
      · cases hs
    · cases hs
  · cases hs
/-- a stretch of a row laid into a row -/
theorem eg_cp_ok (hx : p.tables.exec = Jvm.exec) (hb : c.code = cc) (hts : ∀ w ∈ Ts, w.before args s = true) (hown : s.vm.findClass own = some m.cls) (hfr : 1 ≤ R.frames) (hlo : 84 ≤ R.locals) (hml : ls.size = c.maxLocals) (hK : va_K D cl [] s) (had : eg_ad ad K0 base) (hR : eg_R D cl ad K0 base s h H) (hS : va_S (fun q => base ≤ q) B H locs) {ix : Nat} {q : Option eg_E} (hq : ∀ x, q = some x → eg_pok Ts Tn cl own ini Zs ix x)
    (hd : decode cc pc = .ok (.invokestatic ix, 3)) (hs : eg_cp cl K0 q st h = some (st2, h2)) (k : ∀ (H1 : Heap) (locs1 : List Loc), eg_R D cl ad K0 base s h2 H1 → va_S (fun q => base ≤ q) B H1 locs1 → h2.2 = h.2 → W p l e R s m args below meth c H1 locs1 cells slots Q (F0 m (pc + 3) ls (st2.map (eg_cv ad)))) : W p l e R s m args below meth c H locs cells slots Q (F0 m pc ls (st.map (eg_cv ad))) := by
  have nn : ∀ z : Int32, ¬ z < 0 → z.toInt = (z.toNatClampNeg : Int) := by
    intro z hz
    have hz0 : (0 : Int) ≤ z.toInt := by
      have := Int32.not_lt.mp hz
      simpa using Int32.le_iff_toInt_le.mp this
    show z.toInt = ((z.toInt.toNat : Nat) : Int)
    omega
  unfold eg_cp at hs
  split at hs
  · next x0 =>
    have pk := hq x0 rfl
    split at hs
    · next ht =>
      split at hs
      · next n dp d sp a r =>
        split at hs
        · next x y hxa hyd =>
          split at hs
          · next hc =>
            obtain ⟨hty, h1, h2, h3, h4, h5, hrf, hsum, hKd⟩ := hc
            cases hs
            obtain ⟨-, -, -, -, -, -, -, -, -, -, -, p17, -⟩ := pk
            obtain ⟨w1, w2, w3, w4⟩ := p17 ht
            obtain ⟨tx, nx, fx⟩ := x
            obtain ⟨ty9, ny, fy⟩ := y
            dsimp only at hty h4 h5 hrf
            subst hty
            obtain ⟨cx, a1, a2, a3, a4, a5, a6, a7⟩ := (hR.1 a _ hxa).2
            obtain ⟨cy, b1, b2, b3, b4, b5, b6, b7⟩ := (hR.1 d _ hyd).2
            dsimp only at a2 a4 a5 a6 a7 b2 b4 b5 b6 b7
            obtain ⟨a20, kx, a21, mx, a22⟩ := a2
            obtain ⟨b20, ky, b21, my, b22⟩ := b2
            intro T hT X
            have hval : ∀ i, i < n.toNatClampNeg → cx.slots.getD (sp.toNatClampNeg + i) .null = eg_cv ad (fx (sp.toNatClampNeg + i)) := by
              intro i hi
              rw [Array.getD_eq_getD_getElem?, a5 _ (by omega)]
              rfl
            obtain ⟨vm', X', step⟩ := X.arraycopy hx hown (hts _ w1) (hts _ w2) (hts _ w3) (hts _ w4) (src := ad a) (dst := ad d) (cs := cx) (cd := cy) (srcPos := sp) (destPos := dp) (n := n) (by rw [hT]; exact a1) (by rw [hT]; exact b1)
              a20 b20 a3 b3 a21 b21 a22 b22 (by cases tx <;> simp [refKind]) h1 h2 h3
              (by rw [nn sp h1, nn n h3]; have := a4.1; omega) (by rw [nn dp h2, nn n h3]; have := b4.1; omega)
              (fun vm₁ hal i hi => by
                rw [hval i hi]
                have hfit := a7 (sp.toNatClampNeg + i) (by omega)
                refine ⟨?_, ?_⟩
                · generalize fx (sp.toNatClampNeg + i) = w at hfit
                  cases w <;> first | exact hfit | (cases tx <;> exact hfit)
                · cases tx with
                  | object C =>
                    simp only [eg_refs, List.all_eq_true, List.mem_range] at hrf
                    have hr := hrf i hi
                    unfold eg_ref at hr
                    split at hr
                    · next e9 => rw [e9]; exact trivial
                    · next b9 e9 =>
                      rw [e9]
                      split at hr
                      · next o ho =>
                        split at hr
                        · next y9 hy9 =>
                          have hyC : y9.1 = C := by simpa using hr
                          subst hyC
                          obtain ⟨r', hr', cellV, g1, g2, g3, -⟩ := (hR.1 b9 _ ho).2
                          have hcls := (hK.1 o.1 y9 hy9).2
                          obtain ⟨kA, comp, k1, k2, k3, -⟩ := b6 y9.1 rfl
                          cases b21.symm.trans k1
                          cases b22.symm.trans k2
                          have hcomp : my = D.1 o.1 := Option.some.inj (k3.symm.trans hcls.1)
                          subst hcomp
                          obtain ⟨kC, hkC, hkk⟩ := hcls.2
                          obtain ⟨kC', hkC', -⟩ := hal.2.2 _ _ hkC
                          refine ⟨cellV, (show T.heap[ad b9]? = some cellV by rw [hT]; exact g1), (fun q h => by rw [g3] at h; cases h), ⟨kC', by rw [g2]; exact hkC'⟩, ⟨kC', hkC'⟩, ?_⟩
                          show vm₁.assignable _ _ = true
                          rw [hal.assignable, g2]
                          exact va_assign hcls
                        · cases hr
                      · cases hr
                    · cases hr
                  | array t => simp [eg_refs] at hrf
                  | _ => (generalize fx (sp.toNatClampNeg + i) = w at hfit; cases w <;> first | exact trivial | cases hfit))
              (g := F0 m pc ls ((Value.int n :: .int dp :: .ref d :: .int sp :: .ref a :: st2).map (eg_cv ad))) rfl hml (rest := st2.map (eg_cv ad)) rfl (by rw [hb]; exact hd) hfr (by
                have hs9 : ((st2.map (eg_cv ad)).map fun v => v.category).sum ≤ 8 := by
                  rw [List.map_map]
                  have e1 : ((fun v : Value => v.category) ∘ eg_cv ad) = fun v => v.category := by funext v; exact eg_cv_cat ad v
                  rw [e1]; exact hsum
                have hw9 : nativeFrameWords "java/lang/System" "arraycopy" 5 + 11 ≤ 60 := by decide
                show 2 * 0 + _ + _ ≤ _
                omega)
            obtain ⟨f1, f2, f3, -, -⟩ := Cell.storeRun_facts cy dp.toNatClampNeg (cx.stretch sp.toNatClampNeg n.toNatClampNeg)
            have hlen : (cx.stretch sp.toNatClampNeg n.toNatClampNeg).length = n.toNatClampNeg := by simp [Cell.stretch]
            have hget : ∀ j, j < ny → (cy.storeRun dp.toNatClampNeg (cx.stretch sp.toNatClampNeg n.toNatClampNeg)).slots[j]? = some (eg_cv ad (va_cpy fx fy sp.toNatClampNeg dp.toNatClampNeg n.toNatClampNeg j)) := by
              intro j hj
              rw [Cell.storeRun_get _ _ _ _ (Nat.le_trans (by rw [hlen]; exact h5) b4.1), hlen]
              simp only [va_cpy]
              by_cases hjj : dp.toNatClampNeg ≤ j ∧ j < dp.toNatClampNeg + n.toNatClampNeg
              · rw [if_pos hjj, if_pos hjj]
                simp only [Cell.stretch, List.getElem?_map]
                rw [List.getElem?_range (by omega)]
                simp only [Option.map_some]
                rw [hval _ (by omega)]
              · rw [if_neg hjj, if_neg hjj]
                exact b5 j hj
            have hba : base ≤ ad d := by rw [(had d).2 hKd]; omega
            have hl : ad d < H.size := (Array.getElem?_eq_some_iff.mp b1).1
            have hheap : ((T.setVm vm').setCell (ad d) (cy.storeRun dp.toNatClampNeg (cx.stretch sp.toNatClampNeg n.toNatClampNeg))).heap = H.setIfInBounds (ad d) (cy.storeRun dp.toNatClampNeg (cx.stretch sp.toNatClampNeg n.toNatClampNeg)) := by rw [← hT]; rfl
            have oq : ∀ q : Nat, q ≠ ad d → (H.setIfInBounds (ad d) (cy.storeRun dp.toNatClampNeg (cx.stretch sp.toNatClampNeg n.toNatClampNeg)))[q]? = H[q]? := fun q hq => by simp [Array.getElem?_setIfInBounds, Ne.symm hq]
            have hz : (H.setIfInBounds (ad d) (cy.storeRun dp.toNatClampNeg (cx.stretch sp.toNatClampNeg n.toNatClampNeg))).size = H.size := by simp
            obtain ⟨t9, c1, c2⟩ := k _ _ (hR.put had hyd hKd hz oq ⟨_, by simp [Array.getElem?_setIfInBounds, hl], ⟨by rw [f2]; exact b20, ky, by rw [f1]; exact b21, my, b22⟩, by rw [f2]; exact b3, by rw [f3]; exact b4, hget, fun C hC => by rw [f1]; exact b6 C hC, fun j hj => by
                simp only [va_cpy]
                by_cases hjj : dp.toNatClampNeg ≤ j ∧ j < dp.toNatClampNeg + n.toNatClampNeg
                · rw [if_pos hjj]; exact a7 _ (by omega)
                · rw [if_neg hjj]; exact b7 j hj⟩)
              ⟨by rw [hz]; exact hS.1, fun q g1 g2 => by
                rw [oq q (fun e => g2 (by rw [e]; exact hba))]
                exact hS.2.1 q g1 g2, fun q hq => by
                rcases List.mem_append.mp hq with h | h
                · exact hS.2.2 q h
                · obtain ⟨z, -, hz⟩ := List.mem_map.mp h
                  rw [← hz]
                  exact hba⟩ rfl _ hheap X'
            exact ⟨t9, step t9 c1, c2⟩
          · cases hs
        · cases hs
      · cases hs
    · cases hs
  · cases hs
theorem eg_mx_ok {f : Int32 → Int32 → Int32} (hs : eg_mx f st h = some (st2, h2)) (row : ∀ (x y : Int32) (rest : List Value), (rest.map fun v => v.category).sum ≤ 8 → W p l e R s m args below meth c H locs cells slots Q (F0 m (pc + 3) ls (.int (f x y) :: rest)) → W p l e R s m args below meth c H locs cells slots Q (F0 m pc ls (.int y :: .int x :: rest)))
    (k : h2 = h → W p l e R s m args below meth c H locs cells slots Q (F0 m (pc + 3) ls (st2.map (eg_cv ad)))) : W p l e R s m args below meth c H locs cells slots Q (F0 m pc ls (st.map (eg_cv ad))) := by
  unfold eg_mx at hs
  split at hs
  · next y x r =>
    split at hs
    · next hc =>
      cases hs
      refine row x y _ ?_ (k rfl)
      rw [List.map_map]
      have e1 : ((fun v : Value => v.category) ∘ eg_cv ad) = fun v => v.category := by funext v; exact eg_cv_cat ad v
      rw [e1]; exact hc
    · cases hs
  · cases hs
theorem eg_mxl_ok {f : Int64 → Int64 → Int64} (hs : eg_mxl f st h = some (st2, h2)) (row : ∀ (x y : Int64) (rest : List Value), (rest.map fun v => v.category).sum ≤ 8 → W p l e R s m args below meth c H locs cells slots Q (F0 m (pc + 3) ls (.long (f x y) :: rest)) → W p l e R s m args below meth c H locs cells slots Q (F0 m pc ls (.long y :: .long x :: rest)))
    (k : h2 = h → W p l e R s m args below meth c H locs cells slots Q (F0 m (pc + 3) ls (st2.map (eg_cv ad)))) : W p l e R s m args below meth c H locs cells slots Q (F0 m pc ls (st.map (eg_cv ad))) := by
  unfold eg_mxl at hs
  split at hs
  · next y x r =>
    split at hs
    · next hc =>
      cases hs
      refine row x y _ ?_ (k rfl)
      rw [List.map_map]
      have e1 : ((fun v : Value => v.category) ∘ eg_cv ad) = fun v => v.category := by funext v; exact eg_cv_cat ad v
      rw [e1]; exact hc
    · cases hs
  · cases hs
/-- Math's max and min -/
theorem eg_mm_ok (hx : p.tables.exec = Jvm.exec) (hb : c.code = cc) (hts : ∀ w ∈ Ts, w.before args s = true) (hown : s.vm.findClass own = some m.cls) (hfr : 1 ≤ R.frames) (hlo : 84 ≤ R.locals) (hml : ls.size = c.maxLocals) (hc1 : cells ≤ R.cells) (hc2 : slots ≤ R.slots) {ix : Nat} {q : Option eg_E} (hq : ∀ x, q = some x → eg_pok Ts Tn cl own ini Zs ix x)
    (hd : decode cc pc = .ok (.invokestatic ix, 3)) (hs : eg_mm q st h = some (st2, h2)) (k : h2 = h → W p l e R s m args below meth c H locs cells slots Q (F0 m (pc + 3) ls (st2.map (eg_cv ad)))) : W p l e R s m args below meth c H locs cells slots Q (F0 m pc ls (st.map (eg_cv ad))) := by
  unfold eg_mm at hs
  split at hs
  · next z =>
    obtain ⟨-, -, -, -, -, -, -, -, -, -, -, -, -, p20, p21, p22, p23⟩ := hq z rfl
    split at hs
    · next ht =>
      obtain ⟨w1, w2, w3, w4⟩ := p20 ht
      exact eg_mx_ok hs (fun x y rest hr kk => va_mmax hx hb hml.symm hown (hts _ w1) (hts _ w2) (hts _ w3) (hts _ w4) hfr (by omega) hc1 hc2 hd kk) k
    · split at hs
      · next ht =>
        obtain ⟨w1, w2, w3, w4⟩ := p21 ht
        exact eg_mx_ok hs (fun x y rest hr kk => va_mmin hx hb hml.symm hown (hts _ w1) (hts _ w2) (hts _ w3) (hts _ w4) hfr (by omega) hc1 hc2 hd kk) k
      · split at hs
        · next ht =>
          obtain ⟨w1, w2, w3, w4⟩ := p22 ht
          exact eg_mxl_ok hs (fun x y rest hr kk => va_mmax_long hx hb hml.symm hown (hts _ w1) (hts _ w2) (hts _ w3) (hts _ w4) hfr (by omega) hc1 hc2 hd kk) k
        · split at hs
          · next ht =>
            obtain ⟨w1, w2, w3, w4⟩ := p23 ht
            exact eg_mxl_ok hs (fun x y rest hr kk => va_mmin_long hx hb hml.symm hown (hts _ w1) (hts _ w2) (hts _ w3) (hts _ w4) hfr (by omega) hc1 hc2 hd kk) k
          · cases hs
  · cases hs
end EGH
