/-! A QUICK MACHINE: the pure machine on rows of bits, for runs that the kernel computes. All that is made is worked out at once (continuations). Unknown ints are tokens (.retAddr j), unknown longs too (.double j); what some methods do may be told by an oracle. -/
/-- rows of fields of 72 bits; the lowest field is no value: it tells rows apart (the kernel looks numbers up by their low bits) -/
def bf_get (A i : Nat) : Nat := Nat.mod (Nat.shiftRight A (Nat.mul 72 (Nat.succ i))) 4722366482869645213696
def bf_sx (A i x : Nat) : Nat := Nat.xor (Nat.xor A (Nat.shiftLeft x (Nat.mul 72 (Nat.succ i)))) (Nat.mod (Nat.mul x (Nat.add (Nat.mul i 11400714819323198485) 7046029254386353131)) 18446744073709551616)
def bf_set (A i v : Nat) : Nat := bf_sx A i (Nat.xor (bf_get A i) v)
/-- a cell: its type or kind, how many values, what stands where nothing was put, the values -/
abbrev ecq : Type := (FieldType ⊕ Nat) × Nat × Value × Nat
abbrev e1 : Type := ecq × ecq
abbrev e2 : Type := e1 × e1
abbrev e3 : Type := e2 × e2
abbrev e4 : Type := e3 × e3
abbrev e5 : Type := e4 × e4
abbrev e6 : Type := e5 × e5
abbrev e7 : Type := e6 × e6
abbrev e8 : Type := e7 × e7
abbrev e9 : Type := e8 × e8
abbrev eh : Type := e9 × Nat × Nat
/-- a frame: how deep it may call, the method, the place, the frame's places, the stack -/
abbrev fr : Type := Nat × Nat × Nat × eg_L × List Value
abbrev es : Type := List fr × Option Value × eh
/-- the methods of frames: the law is 0 -/
def kdL : eg_D := (⟨"FrozenVolumeLaw", "law", "([I)Z"⟩, code, 4, some .boolean, kcL, kp0)
noncomputable def mx (j : Nat) : Option eg_D := Nat.rec (motive := fun _ => Option eg_D) (some kdL) (fun m _ => mt m) j
noncomputable def ev_cd (j pc : Nat) : Option (Instr × Nat) := Option.rec (motive := fun _ => Option (Instr × Nat)) none (fun D => D.2.2.2.2.1 pc) (mx j)
noncomputable def ev_pl (j ix : Nat) : Option eg_E := Option.rec (motive := fun _ => Option eg_E) none (fun D => D.2.2.2.2.2 ix) (mx j)
noncomputable def ev_ty (j : Nat) : Option FieldType := Option.rec (motive := fun _ => Option FieldType) none (fun D => D.2.2.2.1) (mx j)
noncomputable def ev_ml (j : Nat) : Option Nat := Option.rec (motive := fun _ => Option Nat) none (fun D => some D.2.2.1) (mx j)
/-- what is known of methods: where a call of it may begin as well -/
abbrev eo : Type := Nat → List Value → eh → Option (Nat × eg_L × List Value × eh)
noncomputable def tg {T : Type} (g : T → Nat → ecq) (p : T × T) (k : Nat) : ecq := Prod.rec (motive := fun _ => ecq) (fun a b => Bool.rec (motive := fun _ => ecq) (g b (Nat.div k 2)) (g a (Nat.div k 2)) (Nat.beq (Nat.mod k 2) 0)) p
noncomputable def ts {T β : Type} (s : T → Nat → ecq → (T → β) → β) (p : T × T) (k : Nat) (x : ecq) (c : T × T → β) : β := Prod.rec (motive := fun _ => β) (fun a b => Bool.rec (motive := fun _ => β) (s b (Nat.div k 2) x (fun u => c (a, u))) (s a (Nat.div k 2) x (fun u => c (u, b))) (Nat.beq (Nat.mod k 2) 0)) p
def tg0 (c : ecq) (_ : Nat) : ecq := c
def ts0 {β : Type} (_ : ecq) (_ : Nat) (x : ecq) (c : ecq → β) : β := c x
noncomputable def g9 : e9 → Nat → ecq := tg (tg (tg (tg (tg (tg (tg (tg (tg tg0))))))))
noncomputable def s9 {β : Type} : e9 → Nat → ecq → (e9 → β) → β := ts (ts (ts (ts (ts (ts (ts (ts (ts ts0))))))))
/-- a field of bits as a value -/
noncomputable def ev_d (d : Value) (c : Nat) : Value := Bool.rec (motive := fun _ => Value) (Bool.rec (motive := fun _ => Value) (Bool.rec (motive := fun _ => Value) (Bool.rec (motive := fun _ => Value) (Bool.rec (motive := fun _ => Value) (Bool.rec (motive := fun _ => Value) (.retAddr (Nat.div c 8)) (.double (UInt64.ofNat (Nat.div c 8))) (Nat.beq (Nat.mod c 8) 6)) .null (Nat.beq (Nat.mod c 8) 4)) (.long (Int64.ofNat (Nat.div c 8))) (Nat.beq (Nat.mod c 8) 2)) (.ref (Nat.div c 8)) (Nat.beq (Nat.mod c 8) 3)) d (Nat.beq c 0)) (.int (Int32.ofNat (Nat.div c 8))) (Nat.beq (Nat.mod c 8) 1)
/-- what tokens stand for; the cell 0, which is not touched -/
abbrev sg : Type := (Nat → Int32) × (Nat → Int64) × Option eg_C
def sv (σ : sg) (v : Value) : Value := match v with
  | .retAddr j => .int (σ.1 j)
  | .int x => .int x
  | .long x => .long x
  | .float x => .float x
  | .double x => bif Nat.ble 1 x.toNat then .long (σ.2.1 x.toNat) else .double x
  | .null => .null
  | .ref a => .ref a
noncomputable def ec_c (σ : sg) (c : ecq) : eg_C := match c.1 with
  | .inl t => .inl (t, c.2.1, fun i => bif Nat.blt i c.2.1 then sv σ (ev_d c.2.2.1 (bf_get c.2.2.2 i)) else defaultValue t)
  | .inr k => .inr (k, (List.range c.2.1).map fun i => sv σ (ev_d c.2.2.1 (bf_get c.2.2.2 i)))
noncomputable def eh_h (σ : sg) (h : eh) : eg_H := (fun k => bif Nat.beq k 0 then σ.2.2 else bif Nat.blt k h.2.1 then some (ec_c σ (g9 h.1 k)) else none, h.2.1, h.2.2)
/-- numbers, worked out -/
noncomputable def u32 (x : Int32) : Nat := x.toUInt32.toBitVec.toFin.val
noncomputable def u64 (x : Int64) : Nat := x.toUInt64.toBitVec.toFin.val
noncomputable def ev_N {α : Type} (x : Nat) (k : Nat → α) : α := Nat.rec (motive := fun _ => α) (k 0) (fun m _ => k (Nat.succ m)) x
noncomputable def ev_f {α : Type} (x : Int32) (k : Int32 → α) : α := Nat.rec (motive := fun _ => α) (k (Int32.ofNat 0)) (fun m _ => k (Int32.ofNat (Nat.succ m))) (u32 x)
noncomputable def ev_g {α : Type} (x : Int64) (k : Int64 → α) : α := Nat.rec (motive := fun _ => α) (k (Int64.ofNat 0)) (fun m _ => k (Int64.ofNat (Nat.succ m))) (u64 x)
section EV
variable {β : Type}
noncomputable def ei (b : Bool) (k : Option β) : Option β := Bool.rec (motive := fun _ => Option β) none k b
/-- what stands on the stack -/
noncomputable def pV (st : List Value) (k : Value → List Value → Option β) : Option β := List.rec (motive := fun _ => Option β) none (fun v r _ => k v r) st
noncomputable def pI (st : List Value) (k : Int32 → List Value → Option β) : Option β := List.rec (motive := fun _ => Option β) none (fun v r _ => Value.rec (motive := fun _ => Option β) (fun x => k x r) (fun _ => none) (fun _ => none) (fun _ => none) none (fun _ => none) (fun _ => none) v) st
noncomputable def pJ (st : List Value) (k : Int64 → List Value → Option β) : Option β := List.rec (motive := fun _ => Option β) none (fun v r _ => Value.rec (motive := fun _ => Option β) (fun _ => none) (fun x => k x r) (fun _ => none) (fun _ => none) none (fun _ => none) (fun _ => none) v) st
noncomputable def pA (st : List Value) (k : Nat → List Value → Option β) : Option β := List.rec (motive := fun _ => Option β) none (fun v r _ => Value.rec (motive := fun _ => Option β) (fun _ => none) (fun _ => none) (fun _ => none) (fun _ => none) none (fun a => k a r) (fun _ => none) v) st
/-- an int or a token; a long; a reference or none -/
noncomputable def ev_iI (v : Value) : Bool := Value.rec (motive := fun _ => Bool) (fun _ => true) (fun _ => false) (fun _ => false) (fun _ => false) false (fun _ => false) (fun _ => true) v
noncomputable def ev_iJ (v : Value) : Bool := Value.rec (motive := fun _ => Bool) (fun _ => false) (fun _ => true) (fun _ => false) (fun b => Nat.ble 1 b.toNat) false (fun _ => false) (fun _ => false) v
noncomputable def ev_iA (v : Value) : Bool := Value.rec (motive := fun _ => Bool) (fun _ => false) (fun _ => false) (fun _ => false) (fun _ => false) true (fun _ => true) (fun _ => false) v
/-- a value as a field of bits -/
noncomputable def ev_e (v : Value) (k : Nat → Option β) : Option β := Value.rec (motive := fun _ => Option β) (fun x => ev_N (Nat.succ (Nat.mul 8 (u32 x))) k) (fun x => ev_N (Nat.add (Nat.mul 8 (u64 x)) 2) k) (fun _ => none) (fun b => ei (Nat.blt b.toNat 1048576) (ev_N (Nat.add (Nat.mul 8 b.toNat) 6) k)) (k 4) (fun a => ei (Nat.blt a 1048576) (ev_N (Nat.add (Nat.mul 8 a) 3) k)) (fun j => ei (Nat.blt j 1048576) (ev_N (Nat.add (Nat.mul 8 j) 5) k)) v
/-- and back -/
noncomputable def ev_x (d : Value) (c : Nat) (k : Value → Option β) : Option β := Bool.rec (motive := fun _ => Option β) (Bool.rec (motive := fun _ => Option β) (Bool.rec (motive := fun _ => Option β) (Bool.rec (motive := fun _ => Option β) (Bool.rec (motive := fun _ => Option β) (Bool.rec (motive := fun _ => Option β) (ev_N (Nat.div c 8) (fun n => k (.retAddr n))) (ev_N (Nat.div c 8) (fun n => k (.double (UInt64.ofNat n)))) (Nat.beq (Nat.mod c 8) 6)) (k .null) (Nat.beq (Nat.mod c 8) 4)) (ev_N (Nat.div c 8) (fun n => k (.long (Int64.ofNat n)))) (Nat.beq (Nat.mod c 8) 2)) (ev_N (Nat.div c 8) (fun n => k (.ref n))) (Nat.beq (Nat.mod c 8) 3)) (k d) (Nat.beq c 0)) (ev_N (Nat.div c 8) (fun n => k (.int (Int32.ofNat n)))) (Nat.beq (Nat.mod c 8) 1)
/-- lists, worked out -/
noncomputable def ev_sp {α : Type} (l : List α) : (List α → Option β) → Option β := List.rec (motive := fun _ => (List α → Option β) → Option β) (fun k => k []) (fun a _ ih k => ih (fun r => k (a :: r))) l
noncomputable def ev_nth (l : eg_L) : Nat → Option Value := List.rec (motive := fun _ => Nat → Option Value) (fun _ => none) (fun a _ ih k => Nat.rec (motive := fun _ => Option Value) a (fun m _ => ih m) k) l
noncomputable def ev_ls (l : eg_L) : Nat → Option Value → (eg_L → Option β) → Option β :=
  List.rec (motive := fun _ => Nat → Option Value → (eg_L → Option β) → Option β) (fun _ _ _ => none) (fun a r ih k x c => Nat.rec (motive := fun _ => Option β) (c (x :: r)) (fun m _ => ih m x (fun u => c (a :: u))) k) l
noncomputable def ev_tk (n : Nat) : List Value → List Value → (List Value → List Value → Option β) → Option β :=
  Nat.rec (motive := fun _ => List Value → List Value → (List Value → List Value → Option β) → Option β) (fun st acc c => c acc st) (fun _ ih st acc c => pV st (fun v r => ih r (v :: acc) c)) n
/-- places -/
noncomputable def ev_ld (t : Value → Bool) (la : eg_L) (k : Nat) (c : Value → Option β) : Option β := Option.rec (motive := fun _ => Option β) none (fun v => ei (t v) (c v)) (ev_nth la k)
/-- no value of two places stands just before k -/
noncomputable def ev_1 (la : eg_L) (k : Nat) : Bool := Nat.rec (motive := fun _ => Bool) true (fun j _ => Option.rec (motive := fun _ => Bool) true (fun v => Nat.beq v.category 1) (ev_nth la j)) k
noncomputable def ev_s1 (t : Value → Bool) (la : eg_L) (k : Nat) (st : List Value) (c : eg_L → List Value → Option β) : Option β := pV st (fun v r => ei (t v) (ei (ev_1 la k) (ev_ls la k (some v) (fun l2 => c l2 r))))
noncomputable def ev_s2 (la : eg_L) (k : Nat) (st : List Value) (c : eg_L → List Value → Option β) : Option β := pV st (fun x r => ei (ev_iJ x) (ei (ev_1 la k) (ev_ls la k (some x) (fun l2 => ev_ls l2 (Nat.succ k) none (fun l3 => c l3 r)))))
noncomputable def ev_inc (la : eg_L) (k : Nat) (n : Int) (c : eg_L → Option β) : Option β := Option.rec (motive := fun _ => Option β) none (fun v => pI [v] (fun x _ => ei (ev_1 la k) (ev_f (x + Int32.ofInt n) (fun z => ev_ls la k (some (.int z)) c)))) (ev_nth la k)
/-- the stack turned -/
noncomputable def ev_d1 (st : List Value) (c : List Value → Option β) : Option β := pV st (fun a r => ei (Nat.beq a.category 1) (c (a :: a :: r)))
noncomputable def ev_p1 (st : List Value) (c : List Value → Option β) : Option β := pV st (fun a r => ei (Nat.beq a.category 1) (c r))
noncomputable def ev_d2 (st : List Value) (c : List Value → Option β) : Option β := pV st (fun a r => Bool.rec (motive := fun _ => Option β) (pV r (fun b r2 => ei (Nat.beq b.category 1) (c (a :: b :: a :: b :: r2)))) (c (a :: a :: r)) (Nat.beq a.category 2))
/-- branches -/
noncomputable def ev_j (pc : Nat) (off : Int) (c : Nat → Option β) : Option β := Int.rec (motive := fun _ => Option β) (fun m => ev_N (Nat.add pc m) c) (fun m => ei (Nat.blt m pc) (ev_N (Nat.sub pc (Nat.succ m)) c)) off
noncomputable def ev_w (b : Bool) (x y : Option β) : Option β := Bool.rec (motive := fun _ => Option β) x y b
def ev_sg (a : Nat) : Nat := Nat.mod (Nat.add a 2147483648) 4294967296
noncomputable def ev_c (c : ClassFile.Cond) (a b : Nat) : Bool := ClassFile.Cond.rec (motive := fun _ => Bool) (Nat.beq a b) (!(Nat.beq a b)) (Nat.blt (ev_sg a) (ev_sg b)) (Nat.ble (ev_sg b) (ev_sg a)) (Nat.blt (ev_sg b) (ev_sg a)) (Nat.ble (ev_sg a) (ev_sg b)) c
noncomputable def ev_ac (K0 : Nat) (st : List Value) (c : Option Nat → Option Nat → List Value → Option β) : Option β := pV st (fun w r => pV r (fun v r => Option.rec (motive := fun _ => Option β) none (fun a => Option.rec (motive := fun _ => Option β) none (fun b => c a b r) (eg_an K0 w)) (eg_an K0 v)))
noncomputable def ev_nl (st : List Value) (c e : List Value → Option β) : Option β := pV st (fun v r => Value.rec (motive := fun _ => Option β) (fun _ => none) (fun _ => none) (fun _ => none) (fun _ => none) (c r) (fun _ => e r) (fun _ => none) v)
noncomputable def ev_sw (o : Option (Nat × List Value)) (r : List Value) (c : Nat → List Value → Option β) : Option β := Option.rec (motive := fun _ => Option β) none (fun p => Prod.rec (motive := fun _ => Option β) (fun a _ => ev_N a (fun q => c q r)) p) o
/-- cells -/
noncomputable def ev_at (h : eh) (a : Nat) (c : (FieldType ⊕ Nat) → Nat → Value → Nat → Option β) : Option β := ei (Nat.blt a h.2.1) (ei (Nat.ble 1 a) (Prod.rec (motive := fun _ => Option β) (fun t p => Prod.rec (motive := fun _ => Option β) (fun m p => Prod.rec (motive := fun _ => Option β) (fun d A => c t m d A) p) p) (g9 h.1 a)))
noncomputable def ev_put (h : eh) (a : Nat) (x : ecq) (c : eh → Option β) : Option β := Prod.rec (motive := fun _ => Option β) (fun e p => s9 e a x (fun e2 => c (e2, p))) h
noncomputable def ev_T (t : FieldType ⊕ Nat) (c : FieldType → Option β) (e : Nat → Option β) : Option β := Sum.rec (motive := fun _ => Option β) c e t
noncomputable def ev_al (t : FieldType → Bool) (st : List Value) (h : eh) (c : List Value → Option β) : Option β := pI st (fun i r => pA r (fun a r => ev_at h a (fun ty m d A => ev_T ty (fun ty => ei (t ty) (ev_N (u32 i) (fun k => ei (Nat.blt k 2147483648) (ei (Nat.blt k m) (ev_N (bf_get A k) (fun x => ev_x d x (fun v => c (v :: r)))))))) (fun _ => none))))
/-- what is stored of a value: the value, made to fit; a token only where it fits -/
def ev_tb (ty : FieldType) (j : Nat) : Bool := match ty with
  | .int => true
  | .byte => Nat.blt j 256
  | _ => false
noncomputable def ev_nr (ty : FieldType) (v : Value) (c : Value → Option β) : Option β := Value.rec (motive := fun _ => Option β) (fun x => c (narrow ty (.int x))) (fun x => c (narrow ty (.long x))) (fun _ => none) (fun b => ei (eg_tJ ty && Nat.ble 1 b.toNat) (c (.double b))) none (fun _ => none) (fun j => ei (ev_tb ty j) (c (.retAddr j))) v
noncomputable def ev_as (K0 : Nat) (t : FieldType → Bool) (w : Value → Bool) (st : List Value) (h : eh) (c : List Value → eh → Option β) : Option β := pV st (fun v r => pI r (fun i r => pA r (fun a r => ev_at h a (fun ty m d A => ev_T ty (fun ty => ei (t ty) (ei (w v) (ei (Nat.ble K0 a) (ev_N (u32 i) (fun k => ei (Nat.blt k 2147483648) (ei (Nat.blt k m) (ei (Nat.ble h.2.1 512) (ev_nr ty v (fun v => ev_e v (fun x => ev_N (bf_set A k x) (fun A2 => ev_put h a (.inl ty, m, d, A2) (fun h2 => c r h2)))))))))))) (fun _ => none)))))
/-- a thing of the row's kind, or none -/
noncomputable def ev_rf (cl : List vw_C) (h : eh) (C : String) (v : Value) (c : Option β) : Option β := Value.rec (motive := fun _ => Option β) (fun _ => none) (fun _ => none) (fun _ => none) (fun _ => none) c (fun b => ev_at h b (fun ty _ _ _ => ev_T ty (fun _ => none) (fun k => Option.rec (motive := fun _ => Option β) none (fun y => ei (y.1 == C) c) cl[k]?))) (fun _ => none) v
noncomputable def ev_aq (cl : List vw_C) (K0 : Nat) (st : List Value) (h : eh) (c : List Value → eh → Option β) : Option β := pV st (fun v r => pI r (fun i r => pA r (fun a r => ev_at h a (fun ty m d A => match ty with
  | .inl (.object C) => ev_rf cl h C v (ei (Nat.ble K0 a) (ev_N (u32 i) (fun k => ei (Nat.blt k 2147483648) (ei (Nat.blt k m) (ei (Nat.ble h.2.1 512) (ev_e v (fun x => ev_N (bf_set A k x) (fun A2 => ev_put h a (.inl (.object C), m, d, A2) (fun h2 => c r h2)))))))))
  | _ => none))))
noncomputable def ev_len (st : List Value) (h : eh) (c : List Value → Option β) : Option β := pA st (fun a r => ev_at h a (fun ty m _ _ => ev_T ty (fun _ => ev_f (Int32.ofNat m) (fun z => c (.int z :: r))) (fun _ => none)))
noncomputable def ev_q (q : Option eg_E) (c : Nat → Nat → Nat → Value → Option β) : Option β := Option.rec (motive := fun _ => Option β) none (fun p => Prod.rec (motive := fun _ => Option β) (fun g p => Prod.rec (motive := fun _ => Option β) (fun x p => Prod.rec (motive := fun _ => Option β) (fun y v => c g x y v) p) p) p) q
/-- the tags of fields that are read -/
noncomputable def ev_or (a b : Bool) : Bool := Bool.rec (motive := fun _ => Bool) b true a
noncomputable def ev_t1 (g : Nat) : Bool := ev_or (Nat.beq g 2) (ev_or (Nat.beq g 15) (ev_or (Nat.beq g 3) (ev_or (Nat.beq g 16) (Nat.beq g 4))))
noncomputable def ev_t2 (g : Nat) : Bool := ev_or (Nat.beq g 2) (ev_or (Nat.beq g 3) (Nat.beq g 4))
noncomputable def ev_gf (q : Option eg_E) (st : List Value) (h : eh) (c : List Value → Option β) : Option β := ev_q q (fun g ci kf _ => pA st (fun a r => ev_at h a (fun ty m d A => ev_T ty (fun _ => none) (fun k => ei (Nat.beq k ci) (ei (Nat.blt kf m) (ei (ev_t1 g) (ev_N (bf_get A kf) (fun x => ev_x d x (fun v => c (v :: r))))))))))
/-- what fits a field -/
noncomputable def ev_ft (ty : FieldType) (v : Value) : Bool := Value.rec (motive := fun _ => Bool) (fun x => eg_fit ty (.int x)) (fun x => eg_fit ty (.long x)) (fun _ => false) (fun b => eg_tJ ty && Nat.ble 1 b.toNat) (eg_fit ty .null) (fun a => eg_fit ty (.ref a)) (fun _ => eg_tI ty) v
noncomputable def ev_pf (ty : Nat → Nat → FieldType) (K0 : Nat) (q : Option eg_E) (st : List Value) (h : eh) (c : List Value → eh → Option β) : Option β := ev_q q (fun g ci kf _ => pV st (fun v r => pA r (fun a r => ev_at h a (fun t m d A => ev_T t (fun _ => none) (fun k => ei (Nat.beq k ci) (ei (Nat.blt kf m) (ei (ev_t2 g) (ei (ev_ft (ty ci kf) v) (ei (Nat.ble K0 a) (ei (Nat.ble h.2.1 512) (ev_e v (fun x => ev_N (bf_set A kf x) (fun A2 => ev_put h a (.inr k, m, d, A2) (fun h2 => c r h2))))))))))))))
noncomputable def ev_mk (h : eh) (x : ecq) (k : Nat) (c : Nat → eh → Option β) : Option β := Prod.rec (motive := fun _ => Option β) (fun e p => Prod.rec (motive := fun _ => Option β) (fun p s => ei (Nat.blt p 512) (ei (Nat.ble 1 p) (s9 e p x (fun e2 => ev_N (Nat.succ p) (fun p2 => ev_N (Nat.add s k) (fun s2 => c p (e2, p2, s2))))))) p) h
/-- the fields of a new thing -/
noncomputable def ev_bl (ty : Nat → FieldType) (n : Nat) (c : Nat → Option β) : Option β :=
  Nat.rec (motive := fun _ => (Nat → Option β) → Option β) (fun c => c 0) (fun j ih c => ih (fun A => ev_e (defaultValue (ty j)) (fun x => ev_N (bf_set A j x) c))) n c
noncomputable def ev_nw (cl : List vw_C) (ty : Nat → Nat → FieldType) (q : Option eg_E) (st : List Value) (h : eh) (c : List Value → eh → Option β) : Option β := ev_q q (fun g ci _ _ => Option.rec (motive := fun _ => Option β) none (fun y => ei (ev_or (Nat.beq g 11) (Nat.beq g 14)) (ev_N y.2.2 (fun m => ev_bl (ty ci) m (fun A => ev_mk h (.inr ci, m, .null, A) m (fun p h2 => c (.ref p :: st) h2))))) cl[ci]?)
noncomputable def ev_na (t : FieldType) (st : List Value) (h : eh) (c : List Value → eh → Option β) : Option β := pI st (fun n r => ev_N (u32 n) (fun m => ei (Nat.blt m 2147483648) (ei (Nat.ble (m * componentBytes t) 536870912) (ev_mk h (.inl t, m, defaultValue t, 0) m (fun p h2 => c (.ref p :: r) h2)))))
noncomputable def ev_nq (cl : List vw_C) (q : Option eg_E) (st : List Value) (h : eh) (c : List Value → eh → Option β) : Option β := ev_q q (fun g ci _ _ => Option.rec (motive := fun _ => Option β) none (fun y => ei (Nat.beq g 14) (ev_na (.object y.1) st h c)) cl[ci]?)
/-- a stretch of a row of bytes, value by value -/
noncomputable def ev_up (A : Nat) (k : Nat) : Nat → Nat → Nat → (Nat → Option β) → Option β :=
  Nat.rec (motive := fun _ => Nat → Nat → Nat → (Nat → Option β) → Option β) (fun _ _ B c => c B) (fun _ ih sp dp B c => ev_N (bf_set B dp (bf_get A sp)) (fun B2 => ev_N (Nat.succ sp) (fun sp2 => ev_N (Nat.succ dp) (fun dp2 => ih sp2 dp2 B2 c)))) k
noncomputable def ev_z (d : Value) (c : Option β) : Option β := Value.rec (motive := fun _ => Option β) (fun x => ei (Nat.beq (u32 x) 0) c) (fun _ => none) (fun _ => none) (fun _ => none) none (fun _ => none) (fun _ => none) d
def ev_by (t : FieldType ⊕ Nat) : Bool := match t with
  | .inl .byte => true
  | _ => false
noncomputable def ev_cp (K0 : Nat) (st : List Value) (h : eh) (c : List Value → eh → Option β) : Option β := pI st (fun k r => pI r (fun dp r => pA r (fun b r => pI r (fun sp r => pA r (fun a r => ev_at h a (fun t1 m1 d1 A => ev_at h b (fun t2 m2 d2 B => ei (ev_by t1) (ei (ev_by t2) (ev_z d1 (ev_z d2 (ev_N (u32 k) (fun k => ev_N (u32 sp) (fun sp => ev_N (u32 dp) (fun dp => ei (Nat.ble (Nat.add sp k) m1) (ei (Nat.ble (Nat.add dp k) m2) (ei (Nat.ble (Nat.add m1 m2) 2147483647) (ei (Nat.ble (eg_sum r) 8) (ei (Nat.ble K0 b) (ei (Nat.ble h.2.1 512) (ev_up A k sp dp B (fun B2 => ev_put h b (t2, m2, d2, B2) (fun h2 => c r h2))))))))))))))))))))))
noncomputable def ev_kv (v : Value) (c : Value → Option β) : Option β := Value.rec (motive := fun _ => Option β) (fun x => ev_f x (fun z => c (.int z))) (fun x => ev_g x (fun z => c (.long z))) (fun _ => none) (fun _ => none) none (fun a => c (.ref a)) (fun _ => none) v
noncomputable def ev_kk (t : Nat) (q : Option eg_E) (c : Value → Option β) : Option β := ev_q q (fun g _ _ v => ei (Nat.beq g t) (ev_kv v c))
noncomputable def ev_ks (q : Option eg_E) (c : Value → Option β) : Option β := ev_q q (fun g _ _ v => ei (ev_or (Nat.beq g 12) (Nat.beq g 18)) (ev_kv v c))
noncomputable def ev_oi (q : Option eg_E) (st : List Value) (c : List Value → Option β) (e : Option β) : Option β := ev_q q (fun g _ _ _ => ev_w (Nat.beq g 13) e (pA st (fun _ r => ei (Nat.ble (eg_sum r) 8) (c r))))
noncomputable def ev_mm (q : Option eg_E) (st : List Value) (h : eg_H) (c : Value → List Value → Option β) : Option β := Option.rec (motive := fun _ => Option β) none (fun p => pV p.1 (fun v r => ev_kv v (fun v => c v r))) (eg_mm q st h)
/-- calls that are done at once: of Math, of System; else a call -/
noncomputable def ev_is (K0 : Nat) (q : Option eg_E) (st : List Value) (h : eh) (c : List Value → Option β) (c2 : List Value → eh → Option β) (e : Option β) : Option β := ev_q q (fun g _ _ _ => ev_w (ev_or (Nat.beq g 7) (Nat.beq g 9)) (ev_w (Nat.beq g 17) (ev_mm q st (fun _ => none, 0, 0) (fun v r => c (v :: r))) (ev_cp K0 st h c2)) e)
end EV
/-- a return: the answer goes to the frame below -/
noncomputable def ev_fr {γ : Type} (f : fr) (k : Nat → Nat → Nat → eg_L → List Value → γ) : γ := Prod.rec (motive := fun _ => γ) (fun d p => Prod.rec (motive := fun _ => γ) (fun j p => Prod.rec (motive := fun _ => γ) (fun pc p => Prod.rec (motive := fun _ => γ) (fun la st => k d j pc la st) p) p) p) f
noncomputable def ev_end (v : Option Value) (fs : List fr) (h : eh) : Option es := List.rec (motive := fun _ => Option es) (some ([], v, h)) (fun f fs2 _ => ev_fr f (fun d j pc la st => Option.rec (motive := fun _ => Option es) (some ((d, j, pc, la, st) :: fs2, none, h)) (fun x => some ((d, j, pc, la, x :: st) :: fs2, none, h)) v)) fs
/-- what a method of a type may answer -/
noncomputable def ev_ai (t : Option FieldType) (v : Value) : Bool := match t with
  | some .int => ev_iI v
  | some .boolean => Value.rec (motive := fun _ => Bool) (fun x => ev_or (Nat.beq (u32 x) 0) (Nat.beq (u32 x) 1)) (fun _ => false) (fun _ => false) (fun _ => false) false (fun _ => false) (fun _ => false) v
  | _ => false
noncomputable def ev_aj (t : Option FieldType) (v : Value) : Bool := match t with
  | some .long => ev_iJ v
  | _ => false
noncomputable def ev_aa (t : Option FieldType) (v : Value) : Bool := match t with
  | some (.object _) => ev_iA v
  | some (.array _) => ev_iA v
  | _ => false
noncomputable def ev_nil (st : List Value) : Bool := List.rec (motive := fun _ => Bool) true (fun _ _ _ => false) st
noncomputable def ev_on (t : Option FieldType) : Bool := Option.rec (motive := fun _ => Bool) true (fun _ => false) t
noncomputable def nx (d j : Nat) (fs : List fr) (h : eh) (la : eg_L) (q : Nat) (st : List Value) : Option es := some ((d, j, q, la, st) :: fs, none, h)
noncomputable def ev_go (ob : eo) (j2 : Nat) (as : List Value) (r : List Value) (d j pc : Nat) (la : eg_L) (fs : List fr) (h : eh) : Option es := Nat.rec (motive := fun _ => Option es) none (fun d2 _ => ei (Nat.ble (eg_sum r) 8) (ev_N (Nat.add pc 3) (fun q => Option.rec (motive := fun _ => Option es) (Option.rec (motive := fun _ => Option es) none (fun ml => Option.rec (motive := fun _ => Option es) none (fun l2 => ev_sp l2 (fun l3 => some ((d2, Nat.succ j2, 0, l3, []) :: (d, j, q, la, r) :: fs, none, h))) (eg_in0 as ml)) (ev_ml (Nat.succ j2))) (fun p => Prod.rec (motive := fun _ => Option es) (fun pc3 p => Prod.rec (motive := fun _ => Option es) (fun la3 p => Prod.rec (motive := fun _ => Option es) (fun st3 h3 => ei (Nat.ble 20 d2) (some ((d2, Nat.succ j2, pc3, la3, st3) :: (d, j, q, la, r) :: fs, none, h3))) p) p) p) (ob j2 as h)))) d
noncomputable def ev_cs (ob : eo) (p : Option eg_E) (st : List Value) (d j pc : Nat) (la : eg_L) (fs : List fr) (h : eh) : Option es := ev_q p (fun g j2 n _ => ev_tk n st [] (fun as r => ei (ev_or (Nat.beq g 7) (Nat.beq g 9)) (ev_go ob j2 as r d j pc la fs h)))
noncomputable def ev_ci (ob : eo) (p : Option eg_E) (st : List Value) (d j pc : Nat) (la : eg_L) (fs : List fr) (h : eh) : Option es := ev_q p (fun g j2 n _ => ev_tk n st [] (fun as r => pA r (fun a r2 => ei (ev_or (Nat.beq g 5) (Nat.beq g 10)) (ev_go ob j2 (.ref a :: as) r2 d j pc la fs h))))
noncomputable def ev_cv (ob : eo) (p : Option eg_E) (st : List Value) (d j pc : Nat) (la : eg_L) (fs : List fr) (h : eh) : Option es := ev_q p (fun g j2 n w => ev_tk n st [] (fun as r => pA r (fun a r2 => ev_at h a (fun ty _ _ _ => ev_T ty (fun _ => none) (fun k => pA [w] (fun k2 _ => ei (Nat.beq k k2) (ei (ev_or (Nat.beq g 6) (Nat.beq g 8)) (ev_go ob j2 (.ref a :: as) r2 d j pc la fs h))))))))
abbrev ea : Type := eo → Nat → Nat → Nat → Nat → Nat → eg_L → List Value → List fr → eh → Option es
def ea_0 : ea := fun _ _ _ _ _ _ _ _ _ _ => none
noncomputable def ea_aconst_null : ea := fun ob d j pc n q la st fs h => ei (Nat.beq n 1) (nx d j fs h la q (.null :: st))
noncomputable def ea_iconst (m : Int) : ea := fun ob d j pc n q la st fs h => ei (Nat.beq n 1) (ev_f (Int32.ofInt m) (fun z => nx d j fs h la q (.int z :: st)))
noncomputable def ea_bipush (m : Int) : ea := fun ob d j pc n q la st fs h => ei (Nat.beq n 2) (ev_f (Int8.ofInt m).toInt32 (fun z => nx d j fs h la q (.int z :: st)))
noncomputable def ea_sipush (m : Int) : ea := fun ob d j pc n q la st fs h => ei (Nat.beq n 3) (ev_f (Int16.ofInt m).toInt32 (fun z => nx d j fs h la q (.int z :: st)))
noncomputable def ea_lconst (m : Fin 2) : ea := fun ob d j pc n q la st fs h => ei (Nat.beq n 1) (ev_g (Int64.ofNat (m : Nat)) (fun z => nx d j fs h la q (.long z :: st)))
noncomputable def ea_iadd : ea := fun ob d j pc n q la st fs h => ei (Nat.beq n 1) (pI st (fun y r => pI r (fun x r => ev_f (x + y) (fun z => nx d j fs h la q (.int z :: r)))))
noncomputable def ea_isub : ea := fun ob d j pc n q la st fs h => ei (Nat.beq n 1) (pI st (fun y r => pI r (fun x r => ev_f (x - y) (fun z => nx d j fs h la q (.int z :: r)))))
noncomputable def ea_imul : ea := fun ob d j pc n q la st fs h => ei (Nat.beq n 1) (pI st (fun y r => pI r (fun x r => ev_f (x * y) (fun z => nx d j fs h la q (.int z :: r)))))
noncomputable def ea_iand : ea := fun ob d j pc n q la st fs h => ei (Nat.beq n 1) (pI st (fun y r => pI r (fun x r => ev_f (x &&& y) (fun z => nx d j fs h la q (.int z :: r)))))
noncomputable def ea_ior : ea := fun ob d j pc n q la st fs h => ei (Nat.beq n 1) (pI st (fun y r => pI r (fun x r => ev_f (x ||| y) (fun z => nx d j fs h la q (.int z :: r)))))
noncomputable def ea_ishl : ea := fun ob d j pc n q la st fs h => ei (Nat.beq n 1) (pI st (fun y r => pI r (fun x r => ev_f (x <<< (y &&& 31)) (fun z => nx d j fs h la q (.int z :: r)))))
noncomputable def ea_ishr : ea := fun ob d j pc n q la st fs h => ei (Nat.beq n 1) (pI st (fun y r => pI r (fun x r => ev_f (x >>> (y &&& 31)) (fun z => nx d j fs h la q (.int z :: r)))))
noncomputable def ea_iushr : ea := fun ob d j pc n q la st fs h => ei (Nat.beq n 1) (pI st (fun y r => pI r (fun x r => ev_f ((x.toUInt32 >>> (y.toUInt32 &&& Int32.toUInt32 31)).toInt32) (fun z => nx d j fs h la q (.int z :: r)))))
noncomputable def ea_idiv : ea := fun ob d j pc n q la st fs h => ei (Nat.beq n 1) (pI st (fun y r => pI r (fun x r => ei (!(Nat.beq (u32 y) 0)) (ev_f (x / y) (fun z => nx d j fs h la q (.int z :: r))))))
noncomputable def ea_irem : ea := fun ob d j pc n q la st fs h => ei (Nat.beq n 1) (pI st (fun y r => pI r (fun x r => ei (!(Nat.beq (u32 y) 0)) (ev_f (x - x / y * y) (fun z => nx d j fs h la q (.int z :: r))))))
noncomputable def ea_ladd : ea := fun ob d j pc n q la st fs h => ei (Nat.beq n 1) (pJ st (fun y r => pJ r (fun x r => ev_g (x + y) (fun z => nx d j fs h la q (.long z :: r)))))
noncomputable def ea_lsub : ea := fun ob d j pc n q la st fs h => ei (Nat.beq n 1) (pJ st (fun y r => pJ r (fun x r => ev_g (x - y) (fun z => nx d j fs h la q (.long z :: r)))))
noncomputable def ea_lmul : ea := fun ob d j pc n q la st fs h => ei (Nat.beq n 1) (pJ st (fun y r => pJ r (fun x r => ev_g (x * y) (fun z => nx d j fs h la q (.long z :: r)))))
noncomputable def ea_land : ea := fun ob d j pc n q la st fs h => ei (Nat.beq n 1) (pJ st (fun y r => pJ r (fun x r => ev_g (x &&& y) (fun z => nx d j fs h la q (.long z :: r)))))
noncomputable def ea_lor : ea := fun ob d j pc n q la st fs h => ei (Nat.beq n 1) (pJ st (fun y r => pJ r (fun x r => ev_g (x ||| y) (fun z => nx d j fs h la q (.long z :: r)))))
noncomputable def ea_lcmp : ea := fun ob d j pc n q la st fs h => ei (Nat.beq n 1) (pJ st (fun y r => pJ r (fun x r => ev_f (lg_cmp x y) (fun z => nx d j fs h la q (.int z :: r)))))
noncomputable def ea_ldiv : ea := fun ob d j pc n q la st fs h => ei (Nat.beq n 1) (pJ st (fun y r => pJ r (fun x r => ei (!(Nat.beq (u64 y) 0)) (ev_g (x / y) (fun z => nx d j fs h la q (.long z :: r))))))
noncomputable def ea_lrem : ea := fun ob d j pc n q la st fs h => ei (Nat.beq n 1) (pJ st (fun y r => pJ r (fun x r => ei (!(Nat.beq (u64 y) 0)) (ev_g (x - x / y * y) (fun z => nx d j fs h la q (.long z :: r))))))
noncomputable def ea_lshl : ea := fun ob d j pc n q la st fs h => ei (Nat.beq n 1) (pI st (fun y r => pJ r (fun x r => ev_g (x <<< (y.toInt64 &&& 63)) (fun z => nx d j fs h la q (.long z :: r)))))
noncomputable def ea_lshr : ea := fun ob d j pc n q la st fs h => ei (Nat.beq n 1) (pI st (fun y r => pJ r (fun x r => ev_g (x >>> (y.toInt64 &&& 63)) (fun z => nx d j fs h la q (.long z :: r)))))
noncomputable def ea_lushr : ea := fun ob d j pc n q la st fs h => ei (Nat.beq n 1) (pI st (fun y r => pJ r (fun x r => ev_g ((x.toUInt64 >>> (y.toInt64.toUInt64 &&& Int64.toUInt64 63)).toInt64) (fun z => nx d j fs h la q (.long z :: r)))))
noncomputable def ea_ineg : ea := fun ob d j pc n q la st fs h => ei (Nat.beq n 1) (pI st (fun x r => ev_f (-x) (fun z => nx d j fs h la q (.int z :: r))))
noncomputable def ea_i2b : ea := fun ob d j pc n q la st fs h => ei (Nat.beq n 1) (pI st (fun x r => ev_f (x.toInt8.toInt32) (fun z => nx d j fs h la q (.int z :: r))))
noncomputable def ea_i2s : ea := fun ob d j pc n q la st fs h => ei (Nat.beq n 1) (pI st (fun x r => ev_f (x.toInt16.toInt32) (fun z => nx d j fs h la q (.int z :: r))))
noncomputable def ea_i2l : ea := fun ob d j pc n q la st fs h => ei (Nat.beq n 1) (pI st (fun x r => ev_g x.toInt64 (fun z => nx d j fs h la q (.long z :: r))))
noncomputable def ea_l2i : ea := fun ob d j pc n q la st fs h => ei (Nat.beq n 1) (pJ st (fun x r => ev_f x.toInt32 (fun z => nx d j fs h la q (.int z :: r))))
noncomputable def ea_dup : ea := fun ob d j pc n q la st fs h => ei (Nat.beq n 1) (ev_d1 st (fun r => nx d j fs h la q r))
noncomputable def ea_dup2 : ea := fun ob d j pc n q la st fs h => ei (Nat.beq n 1) (ev_d2 st (fun r => nx d j fs h la q r))
noncomputable def ea_pop : ea := fun ob d j pc n q la st fs h => ei (Nat.beq n 1) (ev_p1 st (fun r => nx d j fs h la q r))
noncomputable def ea_iload (k : Nat) : ea := fun ob d j pc n q la st fs h => ei (Nat.beq n 2) (ev_ld ev_iI la k (fun v => nx d j fs h la q (v :: st)))
noncomputable def ea_iload_n (k : Fin 4) : ea := fun ob d j pc n q la st fs h => ei (Nat.beq n 1) (ev_ld ev_iI la k.val (fun v => nx d j fs h la q (v :: st)))
noncomputable def ea_istore (k : Nat) : ea := fun ob d j pc n q la st fs h => ei (Nat.beq n 2) (ev_s1 ev_iI la k st (fun l2 r => nx d j fs h l2 q r))
noncomputable def ea_istore_n (k : Fin 4) : ea := fun ob d j pc n q la st fs h => ei (Nat.beq n 1) (ev_s1 ev_iI la k.val st (fun l2 r => nx d j fs h l2 q r))
noncomputable def ea_lload (k : Nat) : ea := fun ob d j pc n q la st fs h => ei (Nat.beq n 2) (ev_ld ev_iJ la k (fun v => nx d j fs h la q (v :: st)))
noncomputable def ea_lload_n (k : Fin 4) : ea := fun ob d j pc n q la st fs h => ei (Nat.beq n 1) (ev_ld ev_iJ la k.val (fun v => nx d j fs h la q (v :: st)))
noncomputable def ea_lstore (k : Nat) : ea := fun ob d j pc n q la st fs h => ei (Nat.beq n 2) (ev_s2 la k st (fun l2 r => nx d j fs h l2 q r))
noncomputable def ea_lstore_n (k : Fin 4) : ea := fun ob d j pc n q la st fs h => ei (Nat.beq n 1) (ev_s2 la k.val st (fun l2 r => nx d j fs h l2 q r))
noncomputable def ea_aload (k : Nat) : ea := fun ob d j pc n q la st fs h => ei (Nat.beq n 2) (ev_ld ev_iA la k (fun v => nx d j fs h la q (v :: st)))
noncomputable def ea_aload_n (k : Fin 4) : ea := fun ob d j pc n q la st fs h => ei (Nat.beq n 1) (ev_ld ev_iA la k.val (fun v => nx d j fs h la q (v :: st)))
noncomputable def ea_astore (k : Nat) : ea := fun ob d j pc n q la st fs h => ei (Nat.beq n 2) (ev_s1 ev_iA la k st (fun l2 r => nx d j fs h l2 q r))
noncomputable def ea_astore_n (k : Fin 4) : ea := fun ob d j pc n q la st fs h => ei (Nat.beq n 1) (ev_s1 ev_iA la k.val st (fun l2 r => nx d j fs h l2 q r))
noncomputable def ea_iinc (k : Nat) (m : Int) : ea := fun ob d j pc n q la st fs h => ei (ev_or (Nat.beq n 3) (Nat.beq n 6)) (ev_inc la k m (fun l2 => nx d j fs h l2 q st))
noncomputable def ea_goto (off : Int) : ea := fun ob d j pc n q la st fs h => ei (Nat.beq n 3) (ev_j pc off (fun q2 => nx d j fs h la q2 st))
noncomputable def ea_ifCond (c : ClassFile.Cond) (off : Int) : ea := fun ob d j pc n q la st fs h => ei (Nat.beq n 3) (pI st (fun x r => ev_j pc off (fun q2 => ev_w (ev_c c (u32 x) 0) (nx d j fs h la q r) (nx d j fs h la q2 r))))
noncomputable def ea_if_icmp (c : ClassFile.Cond) (off : Int) : ea := fun ob d j pc n q la st fs h => ei (Nat.beq n 3) (pI st (fun y r => pI r (fun x r => ev_j pc off (fun q2 => ev_w (ev_c c (u32 x) (u32 y)) (nx d j fs h la q r) (nx d j fs h la q2 r)))))
noncomputable def ea_if_acmp (c : ClassFile.ACond) (off : Int) : ea := fun ob d j pc n q la st fs h => ei (Nat.beq n 3) (ev_ac 3 st (fun a b r => ev_j pc off (fun q2 => ev_w (eg_acnd c a b) (nx d j fs h la q r) (nx d j fs h la q2 r))))
noncomputable def ea_ifnull (off : Int) : ea := fun ob d j pc n q la st fs h => ei (Nat.beq n 3) (ev_nl st (fun r => ev_j pc off (fun q2 => nx d j fs h la q2 r)) (fun r => nx d j fs h la q r))
noncomputable def ea_ifnonnull (off : Int) : ea := fun ob d j pc n q la st fs h => ei (Nat.beq n 3) (ev_nl st (fun r => nx d j fs h la q r) (fun r => ev_j pc off (fun q2 => nx d j fs h la q2 r)))
noncomputable def ea_tableswitch (a b c : Int) (e : Array Int) : ea := fun ob d j pc n q la st fs h => pI st (fun x r => ev_sw (eg_b 3 pc (.tableswitch a b c e) (.int x :: r)) r (fun q2 r => nx d j fs h la q2 r))
noncomputable def ea_lookupswitch (a : Int) (b : Array (Int × Int)) : ea := fun ob d j pc n q la st fs h => pI st (fun x r => ev_sw (eg_b 3 pc (.lookupswitch a b) (.int x :: r)) r (fun q2 r => nx d j fs h la q2 r))
noncomputable def ea_iaload : ea := fun ob d j pc n q la st fs h => ei (Nat.beq n 1) (ev_al eg_tI st h (fun r => nx d j fs h la q r))
noncomputable def ea_laload : ea := fun ob d j pc n q la st fs h => ei (Nat.beq n 1) (ev_al eg_tJ st h (fun r => nx d j fs h la q r))
noncomputable def ea_baload : ea := fun ob d j pc n q la st fs h => ei (Nat.beq n 1) (ev_al eg_tB st h (fun r => nx d j fs h la q r))
noncomputable def ea_aaload : ea := fun ob d j pc n q la st fs h => ei (Nat.beq n 1) (ev_al eg_tA st h (fun r => nx d j fs h la q r))
noncomputable def ea_iastore : ea := fun ob d j pc n q la st fs h => ei (Nat.beq n 1) (ev_as 3 eg_tI ev_iI st h (fun r h2 => nx d j fs h2 la q r))
noncomputable def ea_lastore : ea := fun ob d j pc n q la st fs h => ei (Nat.beq n 1) (ev_as 3 eg_tJ ev_iJ st h (fun r h2 => nx d j fs h2 la q r))
noncomputable def ea_bastore : ea := fun ob d j pc n q la st fs h => ei (Nat.beq n 1) (ev_as 3 eg_tB ev_iI st h (fun r h2 => nx d j fs h2 la q r))
noncomputable def ea_aastore : ea := fun ob d j pc n q la st fs h => ei (Nat.beq n 1) (ev_aq cl 3 st h (fun r h2 => nx d j fs h2 la q r))
noncomputable def ea_arraylength : ea := fun ob d j pc n q la st fs h => ei (Nat.beq n 1) (ev_len st h (fun r => nx d j fs h la q r))
noncomputable def ea_getfield (ix : Nat) : ea := fun ob d j pc n q la st fs h => ei (Nat.beq n 3) (ev_gf (ev_pl j ix) st h (fun r => nx d j fs h la q r))
noncomputable def ea_putfield (ix : Nat) : ea := fun ob d j pc n q la st fs h => ei (Nat.beq n 3) (ev_pf kY 3 (ev_pl j ix) st h (fun r h2 => nx d j fs h2 la q r))
noncomputable def ea_getstatic (ix : Nat) : ea := fun ob d j pc n q la st fs h => ei (Nat.beq n 3) (ev_ks (ev_pl j ix) (fun v => nx d j fs h la q (v :: st)))
noncomputable def ea_ldc (ix : Nat) : ea := fun ob d j pc n q la st fs h => ei (Nat.beq n 2) (ev_kk 0 (ev_pl j ix) (fun v => nx d j fs h la q (v :: st)))
noncomputable def ea_ldc_w (ix : Nat) : ea := fun ob d j pc n q la st fs h => ei (Nat.beq n 3) (ev_kk 0 (ev_pl j ix) (fun v => nx d j fs h la q (v :: st)))
noncomputable def ea_ldc2_w (ix : Nat) : ea := fun ob d j pc n q la st fs h => ei (Nat.beq n 3) (ev_kk 1 (ev_pl j ix) (fun v => nx d j fs h la q (v :: st)))
noncomputable def ea_new (ix : Nat) : ea := fun ob d j pc n q la st fs h => ei (Nat.beq n 3) (ev_nw cl kY (ev_pl j ix) st h (fun r h2 => nx d j fs h2 la q r))
noncomputable def ea_newarray (a : ArrayType) : ea := fun ob d j pc n q la st fs h => ei (Nat.beq n 2) (ei (eg_nt a) (ev_na (newarray.typeOf a) st h (fun r h2 => nx d j fs h2 la q r)))
noncomputable def ea_anewarray (ix : Nat) : ea := fun ob d j pc n q la st fs h => ei (Nat.beq n 3) (ev_nq cl (ev_pl j ix) st h (fun r h2 => nx d j fs h2 la q r))
noncomputable def ea_invokespecial (ix : Nat) : ea := fun ob d j pc n q la st fs h => ei (Nat.beq n 3) (ev_oi (ev_pl j ix) st (fun r => nx d j fs h la q r) (ev_ci ob (ev_pl j ix) st d j pc la fs h))
noncomputable def ea_invokestatic (ix : Nat) : ea := fun ob d j pc n q la st fs h => ei (Nat.beq n 3) (ev_is 3 (ev_pl j ix) st h (fun r => nx d j fs h la q r) (fun r h2 => nx d j fs h2 la q r) (ev_cs ob (ev_pl j ix) st d j pc la fs h))
noncomputable def ea_invokevirtual (ix : Nat) : ea := fun ob d j pc n q la st fs h => ei (Nat.beq n 3) (ev_cv ob (ev_pl j ix) st d j pc la fs h)
noncomputable def ea_ireturn : ea := fun ob d j pc n q la st fs h => ei (Nat.beq n 1) (pV st (fun v r => ei (ev_nil r) (ei (ev_ai (ev_ty j) v) (ev_end (some v) fs h))))
noncomputable def ea_lreturn : ea := fun ob d j pc n q la st fs h => ei (Nat.beq n 1) (pV st (fun v r => ei (ev_nil r) (ei (ev_aj (ev_ty j) v) (ev_end (some v) fs h))))
noncomputable def ea_areturn : ea := fun ob d j pc n q la st fs h => ei (Nat.beq n 1) (pV st (fun v r => ei (ev_nil r) (ei (ev_aa (ev_ty j) v) (ev_end (some v) fs h))))
noncomputable def ea_return_ : ea := fun ob d j pc n q la st fs h => ei (Nat.beq n 1) (ei (ev_nil st) (ei (ev_on (ev_ty j)) (ev_end none fs h)))
noncomputable def ev_a (i : Instr) : ea := Instr.rec (motive := fun _ => ea) ea_aaload ea_aastore ea_aconst_null ea_aload ea_aload_n ea_anewarray ea_areturn ea_arraylength ea_astore ea_astore_n ea_0 ea_baload ea_bastore ea_bipush ea_0 ea_0 (fun _ => ea_0) ea_0 ea_0 ea_0 ea_0 ea_0 ea_0 (fun _ => ea_0) (fun _ => ea_0) ea_0 (fun _ => ea_0) (fun _ => ea_0) ea_0 ea_0 ea_0 ea_0 (fun _ => ea_0) (fun _ => ea_0) ea_0 ea_dup ea_0 ea_0 ea_dup2 ea_0 ea_0 ea_0 ea_0 ea_0 ea_0 ea_0 ea_0 (fun _ => ea_0) (fun _ => ea_0) ea_0 (fun _ => ea_0) (fun _ => ea_0) ea_0 ea_0 ea_0 ea_0 (fun _ => ea_0) (fun _ => ea_0) ea_0 ea_getfield ea_getstatic ea_goto (fun _ => ea_0) ea_i2b ea_0 ea_0 ea_0 ea_i2l ea_i2s ea_iadd ea_iaload ea_iand ea_iastore ea_iconst ea_idiv ea_if_acmp ea_if_icmp ea_ifCond ea_ifnonnull ea_ifnull ea_iinc ea_iload ea_iload_n ea_imul ea_ineg (fun _ => ea_0) (fun _ => ea_0) (fun _ _ => ea_0) ea_invokespecial ea_invokestatic ea_invokevirtual ea_ior ea_irem ea_ireturn ea_ishl ea_ishr ea_istore ea_istore_n ea_isub ea_iushr ea_0 (fun _ => ea_0) (fun _ => ea_0) ea_0 ea_0 ea_l2i ea_ladd ea_laload ea_land ea_lastore ea_lcmp ea_lconst ea_ldc ea_ldc_w ea_ldc2_w ea_ldiv ea_lload ea_lload_n ea_lmul ea_0 ea_lookupswitch ea_lor ea_lrem ea_lreturn ea_lshl ea_lshr ea_lstore ea_lstore_n ea_lsub ea_lushr ea_0 ea_0 ea_0 (fun _ _ => ea_0) ea_new ea_newarray ea_0 ea_pop ea_0 ea_putfield (fun _ => ea_0) (fun _ => ea_0) ea_return_ ea_0 ea_0 ea_sipush ea_0 ea_tableswitch i
noncomputable def ev_b (ob : eo) (o : Option (Instr × Nat)) (d j pc : Nat) (la : eg_L) (st : List Value) (fs : List fr) (h : eh) : Option es :=
  Option.rec (motive := fun _ => Option es) none (fun p => ev_N (Nat.add pc p.2) (fun q => ev_a p.1 ob d j pc p.2 q la st fs h)) o
/-- one step -/
noncomputable def ev_s (ob : eo) (s : es) : Option es := Prod.rec (motive := fun _ => Option es) (fun l p => Prod.rec (motive := fun _ => Option es) (fun v h => List.rec (motive := fun _ => Option es) (some ([], v, h)) (fun f fs _ => ev_fr f (fun d j pc la st => ev_b ob (ev_cd j pc) d j pc la st fs h)) l) p) s
/-! instructions on tokens, by facts: an instruction's number, what it is given, what it makes -/
abbrev fa : Type := List (Nat × Nat × Nat × Nat)
/-- where a choice stands whose way is not known: the method, the place, what is on the stack; the place behind the choice, what it makes -/
abbrev fj : Type := List (Nat × Nat × Nat × Nat × Nat)
abbrev ft : Type := fa × fj
def fi (o : Nat) : Instr := match o with
  | 1 => .iand
  | 2 => .ishr
  | 3 => .ishl
  | 4 => .iadd
  | 5 => .isub
  | 6 => .imul
  | 7 => .ior
  | 8 => .iushr
  | 9 => .lshl
  | 10 => .land
  | 11 => .lor
  | 12 => .lmul
  | 13 => .ladd
  | 14 => .lsub
  | 15 => .lcmp
  | 16 => .lshr
  | 17 => .lushr
  | 18 => .idiv
  | 19 => .irem
  | 20 => .ldiv
  | 21 => .lrem
  | 40 => .i2b
  | 41 => .i2l
  | 42 => .l2i
  | 43 => .ineg
  | _ => .nop
def fo (i : Instr) : Nat := match i with
  | .iand => 1
  | .ishr => 2
  | .ishl => 3
  | .iadd => 4
  | .isub => 5
  | .imul => 6
  | .ior => 7
  | .iushr => 8
  | .lshl => 9
  | .land => 10
  | .lor => 11
  | .lmul => 12
  | .ladd => 13
  | .lsub => 14
  | .lcmp => 15
  | .lshr => 16
  | .lushr => 17
  | .idiv => 18
  | .irem => 19
  | .ldiv => 20
  | .lrem => 21
  | .i2b => 40
  | .i2l => 41
  | .l2i => 42
  | .ineg => 43
  | _ => 0
def fc (o : Nat) : ClassFile.Cond := match o with
  | 0 => .eq
  | 1 => .ne
  | 2 => .lt
  | 3 => .ge
  | 4 => .gt
  | _ => .le
def fn (c : ClassFile.Cond) : Nat := match c with
  | .eq => 0
  | .ne => 1
  | .lt => 2
  | .ge => 3
  | .gt => 4
  | .le => 5
noncomputable def ev_lk {β : Type} (l : fa) (o x y : Nat) (c : Nat → Option β) : Option β := List.rec (motive := fun _ => Option β) none (fun e _ ih => ev_w (Nat.beq e.1 o && Nat.beq e.2.1 x && Nat.beq e.2.2.1 y) ih (ev_N e.2.2.2 c)) l
noncomputable def ev_u (l : fa) (i : Instr) (n d j pc : Nat) (la : eg_L) (st : List Value) (fs : List fr) (h : eh) : Option es := match i with
  | .ifCond c off => pV st (fun x r => ev_e x (fun cx => ei (Nat.beq n 3) (ev_lk l (200 + fn c) cx 1 (fun z => ev_j pc off (fun q2 => ev_w (Nat.beq z 9) (nx d j fs h la (pc + 3) r) (nx d j fs h la q2 r))))))
  | .if_icmp c off => pV st (fun y r => pV r (fun x r => ev_e x (fun cx => ev_e y (fun cy => ei (Nat.beq n 3) (ev_lk l (200 + fn c) cx cy (fun z => ev_j pc off (fun q2 => ev_w (Nat.beq z 9) (nx d j fs h la (pc + 3) r) (nx d j fs h la q2 r))))))))
  | .iaload => pI st (fun k r => pA r (fun a r => ei (Nat.beq n 1) (ei (Nat.beq a 0) (ev_lk l 300 (u32 k) 0 (fun z => ev_N (pc + 1) (fun q => ev_x .null z (fun v => nx d j fs h la q (v :: r))))))))
  | .arraylength => pA st (fun a r => ei (Nat.beq n 1) (ei (Nat.beq a 0) (ev_lk l 301 0 0 (fun z => ev_N (pc + 1) (fun q => ev_x .null z (fun v => nx d j fs h la q (v :: r)))))))
  | i => ei (Nat.beq n 1) (ei (Nat.ble 1 (fo i)) (ev_w (Nat.ble 40 (fo i)) (pV st (fun y r => pV r (fun x r => ev_e x (fun cx => ev_e y (fun cy => ev_lk l (fo i) cx cy (fun z => ev_N (pc + 1) (fun q => ev_x .null z (fun v => nx d j fs h la q (v :: r))))))))) (pV st (fun x r => ev_e x (fun cx => ev_lk l (fo i) cx 0 (fun z => ev_N (pc + 1) (fun q => ev_x .null z (fun v => nx d j fs h la q (v :: r)))))))))
noncomputable def ev_jl {β : Type} (l : fj) (j pc x : Nat) (c : Nat → Nat → Option β) : Option β := List.rec (motive := fun _ => Option β) none (fun e _ ih => ev_w (Nat.beq e.1 j && Nat.beq e.2.1 pc && Nat.beq e.2.2.1 x) ih (ev_N e.2.2.2.1 (fun p => ev_N e.2.2.2.2 (fun z => c p z)))) l
noncomputable def ev_jp (l : fj) (d j pc : Nat) (la : eg_L) (st : List Value) (fs : List fr) (h : eh) : Option es := pV st (fun x r => ev_e x (fun cx => ev_jl l j pc cx (fun q z => ev_x .null z (fun v => nx d j fs h la q (v :: r)))))
noncomputable def ev_t (l : ft) (s : es) : Option es := Prod.rec (motive := fun _ => Option es) (fun fs p => Prod.rec (motive := fun _ => Option es) (fun _ h => List.rec (motive := fun _ => Option es) none (fun f fs _ => ev_fr f (fun d j pc la st => Option.rec (motive := fun _ => Option es) none (fun p => Prod.rec (motive := fun _ => Option es) (fun i n => Option.rec (motive := fun _ => Option es) (ev_jp l.2 d j pc la st fs h) (fun s2 => some s2) (ev_u l.1 i n d j pc la st fs h)) p) (ev_cd j pc))) fs) p) s
/-- a step, with tokens -/
noncomputable def ev_m (ob : eo) (l : ft) (s : es) : Option es := Option.rec (motive := fun _ => Option es) (ev_t l s) (fun s2 => some s2) (ev_s ob s)
/-- 2 ^ k steps -/
noncomputable def ev_r (ob : eo) (l : ft) (k : Nat) : es → Option es :=
  Nat.rec (motive := fun _ => es → Option es) (ev_m ob l) (fun _ ih s => Option.rec (motive := fun _ => Option es) none (fun s2 => ih s2) (ih s)) k
/-- the empty cells -/
def ec0 : ecq := (.inr 99, 0, .null, 0)
def z1 : e1 := (ec0, ec0)
def z2 : e2 := (z1, z1)
def z3 : e3 := (z2, z2)
def z4 : e4 := (z3, z3)
def z5 : e5 := (z4, z4)
def z6 : e6 := (z5, z5)
def z7 : e7 := (z6, z6)
def z8 : e8 := (z7, z7)
def z9 : e9 := (z8, z8)
def eo0 : eo := fun _ _ _ => none
