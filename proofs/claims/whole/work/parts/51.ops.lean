/-! THE FLAT MACHINE, part 2: what instructions ask -/
def o_il (j : Nat) (c : FC) : FC := fun l st h => match gl l j with
  | some (.inl (.inl x)) => c l (ti x :: st) h
  | _ => False
def o_ll (j : Nat) (c : FC) : FC := fun l st h => match gl l j with
  | some (.inl (.inr x)) => c l (tj x :: st) h
  | _ => False
def o_al (j : Nat) (c : FC) : FC := fun l st h => match gl l j with
  | some (.inr x) => c l (.inr x :: st) h
  | _ => False
def o_is (j : Nat) (c : FC) : FC := fun l st h => match st with
  | .inl (.inl x) :: r => slk l j (ti x) (fun l2 => c l2 r h)
  | _ => False
def o_ls (j : Nat) (c : FC) : FC := fun l st h => match st with
  | .inl (.inr x) :: r => lsk l j (tj x) (fun l2 => c l2 r h)
  | _ => False
def o_as (j : Nat) (c : FC) : FC := fun l st h => match st with
  | .inr x :: r => slk l j (.inr x) (fun l2 => c l2 r h)
  | _ => False
def o_inc (j : Nat) (n : Int) (c : FC) : FC := fun l st h => match gl l j with
  | some (.inl (.inl x)) => slk l j (ti (x + n)) (fun l2 => c l2 st h)
  | _ => False
def o_ic (n : Int) (c : FC) : FC := fun l st h => c l (ti n :: st) h
def o_lc (n : Int) (c : FC) : FC := fun l st h => c l (tj n :: st) h
/-- a static row -/
def o_stat (n : Nat) (c : FC) : FC := fun l st h => c l (fx n :: st) h
def o_nul (c : FC) : FC := fun l st h => c l (nl :: st) h
def o_iadd (c : FC) : FC := fun l st h => match st with
  | .inl (.inl y) :: .inl (.inl x) :: r => c l (ti (x + y) :: r) h
  | _ => False
def o_isub (c : FC) : FC := fun l st h => match st with
  | .inl (.inl y) :: .inl (.inl x) :: r => c l (ti (x - y) :: r) h
  | _ => False
def o_imul (c : FC) : FC := fun l st h => match st with
  | .inl (.inl y) :: .inl (.inl x) :: r => c l (ti (x * y) :: r) h
  | _ => False
def o_ineg (c : FC) : FC := fun l st h => match st with
  | .inl (.inl x) :: r => c l (ti (-x) :: r) h
  | _ => False
def o_iand (c : FC) : FC := fun l st h => match st with
  | .inl (.inl y) :: .inl (.inl x) :: r => ∃ z : Int, Int32.ofInt x &&& Int32.ofInt y = Int32.ofInt z ∧ c l (ti z :: r) h
  | _ => False
def o_ior (c : FC) : FC := fun l st h => match st with
  | .inl (.inl y) :: .inl (.inl x) :: r => ∃ z : Int, Int32.ofInt x ||| Int32.ofInt y = Int32.ofInt z ∧ c l (ti z :: r) h
  | _ => False
def o_land (c : FC) : FC := fun l st h => match st with
  | .inl (.inr y) :: .inl (.inr x) :: r => ∃ z : Int, Int64.ofInt x &&& Int64.ofInt y = Int64.ofInt z ∧ c l (tj z :: r) h
  | _ => False
def o_lor (c : FC) : FC := fun l st h => match st with
  | .inl (.inr y) :: .inl (.inr x) :: r => ∃ z : Int, Int64.ofInt x ||| Int64.ofInt y = Int64.ofInt z ∧ c l (tj z :: r) h
  | _ => False
/-- the lower bits, below q, a power of two -/
def o_imask (q : Int) (c : FC) : FC := fun l st h => match st with
  | .inl (.inl x) :: r => c l (ti (x % q) :: r) h
  | _ => False
def o_lmask (q : Int) (c : FC) : FC := fun l st h => match st with
  | .inl (.inr x) :: r => c l (tj (x % q) :: r) h
  | _ => False
/-- shifts by what is written out: q is the power of two -/
def o_ishlc (q : Int) (c : FC) : FC := fun l st h => match st with
  | .inl (.inl x) :: r => c l (ti (x * q) :: r) h
  | _ => False
def o_ishrc (q : Int) (c : FC) : FC := fun l st h => match st with
  | .inl (.inl x) :: r => (-2147483648 ≤ x ∧ x ≤ 2147483647) ∧ c l (ti (x / q) :: r) h
  | _ => False
def o_iushrc (q : Int) (c : FC) : FC := fun l st h => match st with
  | .inl (.inl x) :: r => c l (ti (x % 4294967296 / q) :: r) h
  | _ => False
def o_lshlc (q : Int) (c : FC) : FC := fun l st h => match st with
  | .inl (.inr x) :: r => c l (tj (x * q) :: r) h
  | _ => False
def o_lshrc (q : Int) (c : FC) : FC := fun l st h => match st with
  | .inl (.inr x) :: r => (-9223372036854775808 ≤ x ∧ x ≤ 9223372036854775807) ∧ c l (tj (x / q) :: r) h
  | _ => False
/-- shifts by any number -/
def o_ishl (c : FC) : FC := fun l st h => match st with
  | .inl (.inl y) :: .inl (.inl x) :: r => (0 ≤ y ∧ y ≤ 31) ∧ c l (ti (x * 2 ^ y.toNat) :: r) h
  | _ => False
def o_ishr (c : FC) : FC := fun l st h => match st with
  | .inl (.inl y) :: .inl (.inl x) :: r => (0 ≤ y ∧ y ≤ 31 ∧ -2147483648 ≤ x ∧ x ≤ 2147483647) ∧ c l (ti (x / 2 ^ y.toNat) :: r) h
  | _ => False
def o_lshl (c : FC) : FC := fun l st h => match st with
  | .inl (.inl y) :: .inl (.inr x) :: r => (0 ≤ y ∧ y ≤ 63) ∧ c l (tj (x * 2 ^ y.toNat) :: r) h
  | _ => False
def o_lshr (c : FC) : FC := fun l st h => match st with
  | .inl (.inl y) :: .inl (.inr x) :: r => (0 ≤ y ∧ y ≤ 63 ∧ -9223372036854775808 ≤ x ∧ x ≤ 9223372036854775807) ∧ c l (tj (x / 2 ^ y.toNat) :: r) h
  | _ => False
/-- a long's bits without a sign, shifted right: what it is, the prover says -/
def o_lushr (c : FC) : FC := fun l st h => match st with
  | .inl (.inl y) :: .inl (.inr x) :: r => ∃ z : Int, ((Int64.ofInt x).toUInt64 >>> ((Int32.ofInt y).toInt64.toUInt64 &&& Int64.toUInt64 63)).toInt64 = Int64.ofInt z ∧ c l (tj z :: r) h
  | _ => False
def o_idiv (c : FC) : FC := fun l st h => match st with
  | .inl (.inl y) :: .inl (.inl x) :: r => (0 ≤ x ∧ x ≤ 2147483647 ∧ 0 < y ∧ y ≤ 2147483647) ∧ c l (ti (x / y) :: r) h
  | _ => False
def o_irem (c : FC) : FC := fun l st h => match st with
  | .inl (.inl y) :: .inl (.inl x) :: r => (0 ≤ x ∧ x ≤ 2147483647 ∧ 0 < y ∧ y ≤ 2147483647) ∧ c l (ti (x % y) :: r) h
  | _ => False
def o_ldiv (c : FC) : FC := fun l st h => match st with
  | .inl (.inr y) :: .inl (.inr x) :: r => (0 ≤ x ∧ x ≤ 9223372036854775807 ∧ 0 < y ∧ y ≤ 9223372036854775807) ∧ c l (tj (x / y) :: r) h
  | _ => False
def o_lrem (c : FC) : FC := fun l st h => match st with
  | .inl (.inr y) :: .inl (.inr x) :: r => (0 ≤ x ∧ x ≤ 9223372036854775807 ∧ 0 < y ∧ y ≤ 9223372036854775807) ∧ c l (tj (x % y) :: r) h
  | _ => False
def o_ladd (c : FC) : FC := fun l st h => match st with
  | .inl (.inr y) :: .inl (.inr x) :: r => c l (tj (x + y) :: r) h
  | _ => False
def o_lsub (c : FC) : FC := fun l st h => match st with
  | .inl (.inr y) :: .inl (.inr x) :: r => c l (tj (x - y) :: r) h
  | _ => False
def o_lmul (c : FC) : FC := fun l st h => match st with
  | .inl (.inr y) :: .inl (.inr x) :: r => c l (tj (x * y) :: r) h
  | _ => False
def o_i2l (c : FC) : FC := fun l st h => match st with
  | .inl (.inl x) :: r => (-2147483648 ≤ x ∧ x ≤ 2147483647) ∧ c l (tj x :: r) h
  | _ => False
def o_l2i (c : FC) : FC := fun l st h => match st with
  | .inl (.inr x) :: r => c l (ti x :: r) h
  | _ => False
def o_i2b (c : FC) : FC := fun l st h => match st with
  | .inl (.inl x) :: r => c l (ti ((x + 128) % 256 - 128) :: r) h
  | _ => False
def o_i2s (c : FC) : FC := fun l st h => match st with
  | .inl (.inl x) :: r => c l (ti ((x + 32768) % 65536 - 32768) :: r) h
  | _ => False
/-- dup of a value of one place; dup2 of two; pop -/
def o_dup (c : FC) : FC := fun l st h => match st with
  | .inl (.inl x) :: r => c l (ti x :: ti x :: r) h
  | .inr x :: r => c l (.inr x :: .inr x :: r) h
  | _ => False
def o_dup2 (c : FC) : FC := fun l st h => match st with
  | .inl (.inl x) :: .inr y :: r => c l (ti x :: .inr y :: ti x :: .inr y :: r) h
  | _ => False
def o_pop (c : FC) : FC := fun l st h => match st with
  | .inl (.inl _) :: r => c l r h
  | .inr _ :: r => c l r h
  | _ => False
/-- branches -/
def bc (q : ClassFile.Cond) (x y : Int) (P Q : Prop) : Prop := match q with
  | .eq => (x = y → P) ∧ (x ≠ y → Q)
  | .ne => (x ≠ y → P) ∧ (x = y → Q)
  | .lt => (x < y → P) ∧ (y ≤ x → Q)
  | .ge => (y ≤ x → P) ∧ (x < y → Q)
  | .gt => (y < x → P) ∧ (x ≤ y → Q)
  | .le => (x ≤ y → P) ∧ (y < x → Q)
def o_icmp (q : ClassFile.Cond) (ct cf : FC) : FC := fun l st h => match st with
  | .inl (.inl y) :: .inl (.inl x) :: r => (-2147483648 ≤ x ∧ x ≤ 2147483647 ∧ -2147483648 ≤ y ∧ y ≤ 2147483647) ∧ bc q x y (ct l r h) (cf l r h)
  | _ => False
def o_if (q : ClassFile.Cond) (ct cf : FC) : FC := fun l st h => match st with
  | .inl (.inl x) :: r => (-2147483648 ≤ x ∧ x ≤ 2147483647) ∧ bc q x 0 (ct l r h) (cf l r h)
  | _ => False
def o_lcmp (q : ClassFile.Cond) (ct cf : FC) : FC := fun l st h => match st with
  | .inl (.inr y) :: .inl (.inr x) :: r => (-9223372036854775808 ≤ x ∧ x ≤ 9223372036854775807 ∧ -9223372036854775808 ≤ y ∧ y ≤ 9223372036854775807) ∧ bc q x y (ct l r h) (cf l r h)
  | _ => False
def o_ifnull (ct cf : FC) : FC := fun l st h => match st with
  | .inr (.inr _) :: r => ct l r h
  | .inr (.inl _) :: r => cf l r h
  | _ => False
def nm (a : Nat ⊕ Nat) : Nat := match a with
  | .inl n => n
  | .inr n => n
def nmk (a : Nat ⊕ Nat) (k : Nat → Prop) : Prop := match a with
  | .inl n => k n
  | .inr n => k n
theorem nmk_eq (a : Nat ⊕ Nat) (k : Nat → Prop) : nmk a k = k (nm a) := by cases a <;> rfl
def o_acmpeq (ct cf : FC) : FC := fun l st h => match st with
  | .inr (.inl b) :: .inr (.inl a) :: r => nmk a (fun x => nmk b (fun y => (3 ≤ x ∧ 3 ≤ y) ∧ (x = y → ct l r h) ∧ (x ≠ y → cf l r h)))
  | _ => False
/-- fields -/
def glf : List (Option (Option Nat)) → Nat → Option (Option (Option Nat))
  | [], _ => none
  | a :: _, 0 => some a
  | _ :: r, j + 1 => glf r j
def fgt (mk : Nat → TV) (ty : FieldType) (s : Option (Option (Option Nat))) (x : Int) (k : TV → Prop) : Prop := match s with
  | some none => (match ty with
    | .int => k (ti x)
    | .boolean => k (ti (x % 2))
    | .long => k (tj x)
    | .object _ => (∀ n : Nat, x = n → k (gr n)) ∧ (x < 0 → k nl)
    | .array _ => (∀ n : Nat, x = n → k (gr n)) ∧ (x < 0 → k nl)
    | _ => False)
  | some (some (some b)) => k (mk b)
  | some (some none) => k nl
  | none => False
def o_get (ci kf : Nat) (ki : Int) (c : FC) : FC := fun l st h => match h with
  | (sh, M, g) => match st with
  | .inr (.inl (.inl a)) :: r => (match fsh a with
    | some (.inr (cj, fl)) => bif Nat.beq ci cj then fgt fx (kY ci kf) (glf fl kf) (M a ki) (fun v => c l (v :: r) h) else False
    | _ => False)
  | .inr (.inl (.inr a)) :: r => ∃ fl, shp sh a = some (.inr (ci, fl)) ∧ fgt gr (kY ci kf) (glf fl kf) (M a ki) (fun v => c l (v :: r) h)
  | _ => False
def fpt (ty : FieldType) (v : TV) (k : Int → Prop) : Prop := match ty with
  | .int => (match v with
    | .inl (.inl x) => k x
    | _ => False)
  | .boolean => (match v with
    | .inl (.inl x) => (x = 0 ∨ x = 1) ∧ k x
    | _ => False)
  | .long => (match v with
    | .inl (.inr x) => k x
    | _ => False)
  | .object _ => (match v with
    | .inr (.inl n) => nmk n (fun x => k x)
    | .inr (.inr _) => k (-1)
    | _ => False)
  | .array _ => (match v with
    | .inr (.inl n) => nmk n (fun x => k x)
    | .inr (.inr _) => k (-1)
    | _ => False)
  | _ => False
def isv (s : Option (Option (Option Nat))) : Bool := match s with
  | some none => true
  | _ => false
def o_put (ci kf : Nat) (ki : Int) (c : FC) : FC := fun l st h => match h with
  | (sh, M, g) => match st with
  | v :: .inr (.inl (.inl a)) :: r => (match fsh a with
    | some (.inr (cj, fl)) => bif Nat.beq ci cj && Nat.ble 3 a && isv (glf fl kf) then fpt (kY ci kf) v (fun x => c l r (sh, um M a (ur (M a) ki x), g)) else False
    | _ => False)
  | v :: .inr (.inl (.inr a)) :: r => ∃ fl, (3 ≤ a ∧ shp sh a = some (.inr (ci, fl)) ∧ isv (glf fl kf) = true) ∧ fpt (kY ci kf) v (fun x => c l r (sh, um M a (ur (M a) ki x), g))
  | _ => False
/-- rows -/
def o_iald (c : FC) : FC := fun l st h => match h with
  | (sh, M, g) => match st with
  | .inl (.inl i) :: .inr (.inl (.inl a)) :: r => (match fsh a with
    | some (.inl (.int, n)) => bif Nat.ble n 2147483647 then (0 ≤ i ∧ i < n) ∧ c l (ti (M a i) :: r) h else False
    | _ => False)
  | .inl (.inl i) :: .inr (.inl (.inr a)) :: r => ∃ n : Nat, shp sh a = some (.inl (.int, n)) ∧ (n ≤ 2147483647 ∧ 0 ≤ i ∧ i < n) ∧ c l (ti (M a i) :: r) h
  | _ => False
def o_bald (c : FC) : FC := fun l st h => match h with
  | (sh, M, g) => match st with
  | .inl (.inl i) :: .inr (.inl (.inl a)) :: r => (match fsh a with
    | some (.inl (.byte, n)) => bif Nat.ble n 2147483647 then (0 ≤ i ∧ i < n) ∧ c l (ti ((M a i + 128) % 256 - 128) :: r) h else False
    | _ => False)
  | .inl (.inl i) :: .inr (.inl (.inr a)) :: r => ∃ n : Nat, shp sh a = some (.inl (.byte, n)) ∧ (n ≤ 2147483647 ∧ 0 ≤ i ∧ i < n) ∧ c l (ti ((M a i + 128) % 256 - 128) :: r) h
  | _ => False
/-- a byte without its sign -/
def o_ubld (c : FC) : FC := fun l st h => match h with
  | (sh, M, g) => match st with
  | .inl (.inl i) :: .inr (.inl (.inl a)) :: r => (match fsh a with
    | some (.inl (.byte, n)) => bif Nat.ble n 2147483647 then (0 ≤ i ∧ i < n) ∧ c l (ti (M a i % 256) :: r) h else False
    | _ => False)
  | .inl (.inl i) :: .inr (.inl (.inr a)) :: r => ∃ n : Nat, shp sh a = some (.inl (.byte, n)) ∧ (n ≤ 2147483647 ∧ 0 ≤ i ∧ i < n) ∧ c l (ti (M a i % 256) :: r) h
  | _ => False
def o_zald (c : FC) : FC := fun l st h => match h with
  | (sh, M, g) => match st with
  | .inl (.inl i) :: .inr (.inl (.inl a)) :: r => (match fsh a with
    | some (.inl (.boolean, n)) => bif Nat.ble n 2147483647 then (0 ≤ i ∧ i < n) ∧ c l (ti (M a i % 2) :: r) h else False
    | _ => False)
  | _ => False
def o_lald (c : FC) : FC := fun l st h => match h with
  | (sh, M, g) => match st with
  | .inl (.inl i) :: .inr (.inl (.inl a)) :: r => (match fsh a with
    | some (.inl (.long, n)) => bif Nat.ble n 2147483647 then (0 ≤ i ∧ i < n) ∧ c l (tj (M a i) :: r) h else False
    | _ => False)
  | _ => False
def o_aald (c : FC) : FC := fun l st h => match h with
  | (sh, M, g) => match st with
  | .inl (.inl i) :: .inr (.inl (.inl a)) :: r => (match fsh a with
    | some (.inl (.object _, n)) => bif Nat.ble n 2147483647 then (0 ≤ i ∧ i < n) ∧ (∀ m : Nat, M a i = m → c l (gr m :: r) h) ∧ (M a i < 0 → c l (nl :: r) h) else False
    | _ => False)
  | _ => False
def o_iast (c : FC) : FC := fun l st h => match h with
  | (sh, M, g) => match st with
  | .inl (.inl x) :: .inl (.inl i) :: .inr (.inl (.inl a)) :: r => (match fsh a with
    | some (.inl (.int, n)) => bif Nat.ble 3 a && Nat.ble n 2147483647 then (0 ≤ i ∧ i < n) ∧ c l r (sh, um M a (ur (M a) i x), g) else False
    | _ => False)
  | .inl (.inl x) :: .inl (.inl i) :: .inr (.inl (.inr a)) :: r => ∃ n : Nat, shp sh a = some (.inl (.int, n)) ∧ (3 ≤ a ∧ n ≤ 2147483647 ∧ 0 ≤ i ∧ i < n) ∧ c l r (sh, um M a (ur (M a) i x), g)
  | _ => False
def o_bast (c : FC) : FC := fun l st h => match h with
  | (sh, M, g) => match st with
  | .inl (.inl x) :: .inl (.inl i) :: .inr (.inl (.inl a)) :: r => (match fsh a with
    | some (.inl (.byte, n)) => bif Nat.ble 3 a && Nat.ble n 2147483647 then (0 ≤ i ∧ i < n) ∧ c l r (sh, um M a (ur (M a) i x), g) else False
    | some (.inl (.boolean, n)) => bif Nat.ble 3 a && Nat.ble n 2147483647 then (0 ≤ i ∧ i < n) ∧ c l r (sh, um M a (ur (M a) i x), g) else False
    | _ => False)
  | .inl (.inl x) :: .inl (.inl i) :: .inr (.inl (.inr a)) :: r => ∃ n : Nat, shp sh a = some (.inl (.byte, n)) ∧ (3 ≤ a ∧ n ≤ 2147483647 ∧ 0 ≤ i ∧ i < n) ∧ c l r (sh, um M a (ur (M a) i x), g)
  | _ => False
def o_last (c : FC) : FC := fun l st h => match h with
  | (sh, M, g) => match st with
  | .inl (.inr x) :: .inl (.inl i) :: .inr (.inl (.inl a)) :: r => (match fsh a with
    | some (.inl (.long, n)) => bif Nat.ble 3 a && Nat.ble n 2147483647 then (0 ≤ i ∧ i < n) ∧ c l r (sh, um M a (ur (M a) i x), g) else False
    | _ => False)
  | _ => False
/-- a thing of the row's kind, or none -/
def rok (sh : Nat → Option Shp) (C : String) (x : Int) : Prop := 0 ≤ x → ∃ ci fl y, shp sh x.toNat = some (.inr (ci, fl)) ∧ cl[ci]? = some y ∧ y.1 = C
def o_aast (c : FC) : FC := fun l st h => match h with
  | (sh, M, g) => match st with
  | .inr (.inl v) :: .inl (.inl i) :: .inr (.inl (.inl a)) :: r => (match fsh a with
    | some (.inl (.object C, n)) => bif Nat.ble 3 a && Nat.ble n 2147483647 then nmk v (fun y => (0 ≤ i ∧ i < n) ∧ rok sh C y ∧ c l r (sh, um M a (ur (M a) i y), g)) else False
    | _ => False)
  | .inr (.inr _) :: .inl (.inl i) :: .inr (.inl (.inl a)) :: r => (match fsh a with
    | some (.inl (.object _, n)) => bif Nat.ble 3 a && Nat.ble n 2147483647 then (0 ≤ i ∧ i < n) ∧ c l r (sh, um M a (ur (M a) i (-1)), g) else False
    | _ => False)
  | _ => False
def o_len (c : FC) : FC := fun l st h => match h with
  | (sh, M, g) => match st with
  | .inr (.inl (.inl a)) :: r => (match fsh a with
    | some (.inl (_, n)) => c l (ti n :: r) h
    | _ => False)
  | .inr (.inl (.inr a)) :: r => ∃ (t : FieldType) (n : Nat), shp sh a = some (.inl (t, n)) ∧ c l (ti n :: r) h
  | _ => False
def sumc : List TV → Nat
  | [] => 0
  | .inl (.inr _) :: r => sumc r + 2
  | .inl (.inl _) :: r => sumc r + 1
  | .inr _ :: r => sumc r + 1
def shv (sh : Nat → Option Shp) (a : Nat ⊕ Nat) : Option Shp := shp sh (nm a)
def rfs (sh : Nat → Option Shp) (t : FieldType) (f : Int → Int) (sp n : Int) : Prop := match t with
  | .object C => ∀ i : Int, sp ≤ i → i < sp + n → rok sh C (f i)
  | .array _ => False
  | _ => True
def o_copy (c : FC) : FC := fun l st h => match h with
  | (sh, M, g) => match st with
  | .inl (.inl n) :: .inl (.inl dp) :: .inr (.inl d) :: .inl (.inl sp) :: .inr (.inl a) :: r => nmk a (fun x => nmk d (fun y => ∃ (t : FieldType) (na nd : Nat), (shp sh x = some (.inl (t, na)) ∧ shp sh y = some (.inl (t, nd))) ∧ (na ≤ 2147483647 ∧ nd ≤ 2147483647 ∧ 0 ≤ sp ∧ 0 ≤ dp ∧ 0 ≤ n ∧ sp + n ≤ na ∧ dp + n ≤ nd) ∧ (rfs sh t (M (x)) sp n ∧ sumc r ≤ 8 ∧ 3 ≤ y) ∧ c l r (sh, um M (y) (cpf (M (x)) (M (y)) sp dp n), g)))
  | _ => False
def o_min (c : FC) : FC := fun l st h => match st with
  | .inl (.inl y) :: .inl (.inl x) :: r => (-2147483648 ≤ x ∧ x ≤ 2147483647 ∧ -2147483648 ≤ y ∧ y ≤ 2147483647) ∧ (bif Nat.ble (sumc r) 8 then c l (ti (min x y) :: r) h else False)
  | _ => False
def o_max (c : FC) : FC := fun l st h => match st with
  | .inl (.inl y) :: .inl (.inl x) :: r => (-2147483648 ≤ x ∧ x ≤ 2147483647 ∧ -2147483648 ≤ y ∧ y ≤ 2147483647) ∧ (bif Nat.ble (sumc r) 8 then c l (ti (max x y) :: r) h else False)
  | _ => False
def o_lmin (c : FC) : FC := fun l st h => match st with
  | .inl (.inr y) :: .inl (.inr x) :: r => (-9223372036854775808 ≤ x ∧ x ≤ 9223372036854775807 ∧ -9223372036854775808 ≤ y ∧ y ≤ 9223372036854775807) ∧ (bif Nat.ble (sumc r) 8 then c l (tj (min x y) :: r) h else False)
  | _ => False
def o_lmax (c : FC) : FC := fun l st h => match st with
  | .inl (.inr y) :: .inl (.inr x) :: r => (-9223372036854775808 ≤ x ∧ x ≤ 9223372036854775807 ∧ -9223372036854775808 ≤ y ∧ y ≤ 9223372036854775807) ∧ (bif Nat.ble (sumc r) 8 then c l (tj (max x y) :: r) h else False)
  | _ => False
/-- calls: so many values come off the stack -/
def rvk : Nat → List TV → List Value → (List Value → List TV → Prop) → Prop
  | 0, st, as, k => k as st
  | n + 1, v :: st, as, k => rvk n st (tvE v :: as) k
  | _ + 1, [], _, _ => False
def o_calls (d j n : Nat) (c : FC) : FC := fun l st h => rvk n st [] (fun as r => bif Nat.ble (sumc r) 8 then fm_Y d j as h (fun w h2 => c l (w.toList ++ r) h2) else False)
def o_callv (d j n ci : Nat) (c : FC) : FC := fun l st h => match h with
  | (sh, _) => rvk n st [] (fun as r => match r with
  | .inr (.inl (.inl a)) :: r2 => (match fsh a with
    | some (.inr (cj, _)) => bif Nat.beq ci cj && Nat.ble (sumc r2) 8 then fm_Y d j (.ref a :: as) h (fun w h2 => c l (w.toList ++ r2) h2) else False
    | _ => False)
  | .inr (.inl (.inr a)) :: r2 => (∃ fl, shp sh a = some (.inr (ci, fl))) ∧ (bif Nat.ble (sumc r2) 8 then fm_Y d j (.ref a :: as) h (fun w h2 => c l (w.toList ++ r2) h2) else False)
  | _ => False)
def o_callp (d j n : Nat) (c : FC) : FC := fun l st h => rvk n st [] (fun as r => match r with
  | .inr (.inl a) :: r2 => nmk a (fun x => bif Nat.ble (sumc r2) 8 then fm_Y d j (.ref x :: as) h (fun w h2 => c l (w.toList ++ r2) h2) else False)
  | _ => False)
/-- returns -/
def o_iret (K : Option TV → FH → Prop) : FC := fun _ st h => match st with
  | [.inl (.inl x)] => K (some (ti x)) h
  | _ => False
def o_zret (K : Option TV → FH → Prop) : FC := fun _ st h => match st with
  | [.inl (.inl x)] => (x = 0 ∨ x = 1) ∧ K (some (ti x)) h
  | _ => False
def o_lret (K : Option TV → FH → Prop) : FC := fun _ st h => match st with
  | [.inl (.inr x)] => K (some (tj x)) h
  | _ => False
def o_aret (K : Option TV → FH → Prop) : FC := fun _ st h => match st with
  | [.inr x] => K (some (.inr x)) h
  | _ => False
def o_ret (K : Option TV → FH → Prop) : FC := fun _ st h => match st with
  | [] => K none h
  | _ => False
/-- a switch: the numbers, where they lead; where all others lead -/
def swk (x : Int) (df : Prop) : List (Int × Prop) → Prop
  | [] => df
  | q :: r => (x = q.1 → q.2) ∧ (x ≠ q.1 → swk x df r)
def o_sw (cs : List (Int × Nat × FC)) (df : FC) : FC := fun l st h => match st with
  | .inl (.inl x) :: r => (-2147483648 ≤ x ∧ x ≤ 2147483647) ∧ swk x (df l r h) (cs.map fun q => (q.1, q.2.2 l r h))
  | _ => False
