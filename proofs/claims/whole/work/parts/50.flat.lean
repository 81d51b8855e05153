/-! THE FLAT MACHINE: ints as numbers, cells as rows of numbers, and what code asks as propositions. Part 1: values and cells -/
abbrev TV : Type := (Int ⊕ Int) ⊕ ((Nat ⊕ Nat) ⊕ Unit)
abbrev ti (x : Int) : TV := .inl (.inl x)
abbrev tj (x : Int) : TV := .inl (.inr x)
/-- a thing whose number is written out -/
abbrev fx (n : Nat) : TV := .inr (.inl (.inl n))
/-- a thing of any number -/
abbrev gr (n : Nat) : TV := .inr (.inl (.inr n))
abbrev nl : TV := .inr (.inr ())
def tvE (v : TV) : Value := match v with
  | .inl (.inl x) => .int (Int32.ofInt x)
  | .inl (.inr x) => .long (Int64.ofInt x)
  | .inr (.inl (.inl n)) => .ref n
  | .inr (.inl (.inr n)) => .ref n
  | .inr (.inr _) => .null
/-- a cell's shape: a row of a type and its length; or a kind and, of each field, whether it is settled (a thing, none) or not -/
abbrev Shp : Type := (FieldType × Nat) ⊕ (Nat × List (Option (Option Nat)))
abbrev FM : Type := Nat → Int → Int
abbrev FH : Type := (Nat → Option Shp) × FM × Nat × Nat
def dv (t : FieldType) (x : Int) : Value := match t with
  | .int => .int (Int32.ofInt x)
  | .byte => .int (Int32.ofInt ((x + 128) % 256 - 128))
  | .boolean => .int (Int32.ofInt (x % 2))
  | .long => .long (Int64.ofInt x)
  | .object _ => if x < 0 then .null else .ref x.toNat
  | .array _ => if x < 0 then .null else .ref x.toNat
  | _ => .null
def fvs (ty : Nat → FieldType) : List (Option (Option Nat)) → Nat → (Int → Int) → List Value
  | [], _, _ => []
  | none :: r, k, f => dv (ty k) (f k) :: fvs ty r (k + 1) f
  | some none :: r, k, f => .null :: fvs ty r (k + 1) f
  | some (some b) :: r, k, f => .ref b :: fvs ty r (k + 1) f
def cellE (s : Shp) (f : Int → Int) : eg_C := match s with
  | .inl (t, n) => .inl (t, n, fun i => dv t (f i))
  | .inr (ci, fl) => .inr (ci, fvs (kY ci) fl 0 f)
def shp (sh : Nat → Option Shp) (c : Nat) : Option Shp := match fsh c with
  | some s => some s
  | none => sh c
def fm_E (h : FH) : eg_H := (fun c => (shp h.1 c).map fun s => cellE s (h.2.1 c), h.2.2.1, h.2.2.2)
/-- a row with one place changed; cells with one row changed -/
def ur (f : Int → Int) (i v : Int) : Int → Int := fun j => if j = i then v else f j
def um (M : FM) (a : Nat) (f : Int → Int) : FM := fun c => if c = a then f else M c
theorem ur_at (f : Int → Int) (i v : Int) : ur f i v i = v := if_pos rfl
theorem ur_ne {f : Int → Int} {i v j : Int} (h : j ≠ i) : ur f i v j = f j := if_neg h
theorem um_at (M : FM) (a : Nat) (f : Int → Int) : um M a f a = f := if_pos rfl
theorem um_ne {M : FM} {a c : Nat} {f : Int → Int} (h : c ≠ a) : um M a f c = M c := if_neg h
theorem um_um (M : FM) (a : Nat) (f g : Int → Int) : um (um M a f) a g = um M a g := by
  funext c
  simp only [um]
  by_cases e : c = a
  · rw [if_pos e, if_pos e]
  · rw [if_neg e, if_neg e, if_neg e]
theorem um_self (M : FM) (a : Nat) : um M a (M a) = M := by
  funext c
  simp only [um]
  by_cases e : c = a
  · rw [if_pos e, e]
  · rw [if_neg e]
theorem ur_self (f : Int → Int) (i : Int) : ur f i (f i) = f := by
  funext c
  simp only [ur]
  by_cases e : c = i
  · rw [if_pos e, e]
  · rw [if_neg e]
def cpf (f g : Int → Int) (sp dp n : Int) : Int → Int := fun i => if dp ≤ i ∧ i < dp + n then f (sp + (i - dp)) else g i
abbrev FL : Type := List (Option TV)
abbrev FC : Type := FL → List TV → FH → Prop
abbrev lE (l : FL) : eg_L := l.map (Option.map tvE)
abbrev KE (K : Option TV → FH → Prop) : Option Value → eg_H → Prop := fun v g => ∃ w H, v = w.map tvE ∧ g = fm_E H ∧ K w H
/-- from here on the run returns, and K holds then -/
def fm_X (d : Nat) (D : eg_D) (pc : Nat) (l : FL) (st : List TV) (h : FH) (K : Option TV → FH → Prop) : Prop := eg_K cl kY 3 mt d D.2.2.2.1 D.2.2.2.2 (pc, lE l, st.map tvE, fm_E h) (KE K)
/-- a method answers, and K holds then -/
def fm_Y (d j : Nat) (as : List Value) (h : FH) (K : Option TV → FH → Prop) : Prop := eg_Y cl kY 3 mt d j as (fm_E h) (KE K)
/-- what c asks is enough at pc -/
def fm_S (d : Nat) (D : eg_D) (K : Option TV → FH → Prop) (pc : Nat) (c : FC) : Prop := ∀ l st h, c l st h → fm_X d D pc l st h K
theorem fm_Y.imp {d j : Nat} {as : List Value} {h : FH} {K K2 : Option TV → FH → Prop} (k : fm_Y d j as h K) (f : ∀ w H, K w H → K2 w H) : fm_Y d j as h K2 := eg_Y.imp k (fun v g q => by
  obtain ⟨w, H, a, b, e⟩ := q
  exact ⟨w, H, a, b, f w H e⟩)
theorem fm_Y.mono {d e j : Nat} {as : List Value} {h : FH} {K : Option TV → FH → Prop} (hde : d ≤ e) (k : fm_Y d j as h K) : fm_Y e j as h K := eg_Y.mono hde k
/-! places -/
def gl : FL → Nat → Option TV
  | a :: _, 0 => a
  | _ :: r, j + 1 => gl r j
  | [], _ => none
theorem gl_ok : ∀ (l : FL) (j : Nat) (v : TV), gl l j = some v → eg_get (lE l) j = some (tvE v)
  | [], j, v, h => by cases j <;> cases h
  | a :: r, 0, v, h => by
    have h2 : a = some v := h
    subst h2
    rfl
  | a :: r, j + 1, v, h => gl_ok r j v h
/-- a value of one place stored -/
def slk : FL → Nat → TV → (FL → Prop) → Prop
  | [], _, _, _ => False
  | _ :: r, 0, v, k => k (some v :: r)
  | a :: r, 1, v, k => (match r with
    | [] => False
    | _ :: r2 => (match a with
      | some (.inl (.inr _)) => k (none :: some v :: r2)
      | some (.inl (.inl x)) => k (some (.inl (.inl x)) :: some v :: r2)
      | some (.inr x) => k (some (.inr x) :: some v :: r2)
      | none => k (none :: some v :: r2)))
  | a :: r, j + 2, v, k => slk r (j + 1) v (fun r2 => k (a :: r2))
def lsk : FL → Nat → TV → (FL → Prop) → Prop
  | [], _, _, _ => False
  | _ :: r, 0, v, k => (match r with
    | [] => False
    | _ :: r2 => k (some v :: none :: r2))
  | a :: r, 1, v, k => (match r with
    | _ :: _ :: r2 => (match a with
      | some (.inl (.inr _)) => k (none :: some v :: none :: r2)
      | some (.inl (.inl x)) => k (some (.inl (.inl x)) :: some v :: none :: r2)
      | some (.inr x) => k (some (.inr x) :: some v :: none :: r2)
      | none => k (none :: some v :: none :: r2))
    | _ => False)
  | a :: r, j + 2, v, k => lsk r (j + 1) v (fun r2 => k (a :: r2))
theorem tv_cat (v : TV) : (tvE v).category = (match v with
    | .inl (.inr _) => 2
    | _ => 1) := by
  rcases v with (x | x) | ((x | x) | x) <;> rfl
theorem eg_put_c1 {l : eg_L} {k : Nat} {v : Value} (hv : v.category = 1) : eg_put l k v = if k < l.length then some ((eg_cl l k).set k (some v)) else none := by
  unfold eg_put
  rw [if_neg (by omega)]
theorem eg_put_c2 {l : eg_L} {k : Nat} {v : Value} (hv : v.category = 2) : eg_put l k v = if k + 1 < l.length then some (((eg_cl l k).set k (some v)).set (k + 1) none) else none := by
  unfold eg_put
  rw [if_pos hv]
theorem eg_cl_cons (a : Option Value) (r : eg_L) (j : Nat) : eg_cl (a :: r) (j + 2) = a :: eg_cl r (j + 1) := by
  simp only [eg_cl, List.getElem?_cons_succ]
  cases r[j]? with
  | none => rfl
  | some o =>
    cases o with
    | none => rfl
    | some w =>
      dsimp only
      split <;> rfl
theorem slk_ok : ∀ (l : FL) (j : Nat) (v : TV) (k : FL → Prop), (tvE v).category = 1 → slk l j v k → ∃ l2, k l2 ∧ eg_put (lE l) j (tvE v) = some (lE l2)
  | [], _, _, _, _, h => h.elim
  | a :: r, 0, v, k, hv, h => ⟨_, h, by
    rw [eg_put_c1 hv, if_pos (by simp)]
    rfl⟩
  | a :: r, 1, v, k, hv, h => by
    rw [eg_put_c1 hv]
    cases r with
    | nil => exact h.elim
    | cons b r2 =>
      rw [if_pos (by simp)]
      rcases a with _ | ((x | x) | x)
      · exact ⟨_, h, rfl⟩
      · exact ⟨_, h, rfl⟩
      · exact ⟨_, h, rfl⟩
      · refine ⟨_, h, ?_⟩
        have e : (tvE (.inr x)).category = 1 := by rw [tv_cat]
        simp only [eg_cl, List.map_cons, List.getElem?_cons_zero, Option.map_some]
        rw [if_neg (by omega)]
        rfl
  | a :: r, j + 2, v, k, hv, h => by
    obtain ⟨l2, h2, e⟩ := slk_ok r (j + 1) v (fun r2 => k (a :: r2)) hv h
    refine ⟨a :: l2, h2, ?_⟩
    rw [eg_put_c1 hv] at e ⊢
    split at e
    · next hl =>
      have e2 := Option.some.inj e
      rw [if_pos (show j + 2 < (lE (a :: r)).length from Nat.succ_lt_succ hl)]
      show some ((eg_cl (a.map tvE :: lE r) (j + 2)).set (j + 2) (some (tvE v))) = some (a.map tvE :: lE l2)
      rw [eg_cl_cons, List.set_cons_succ, e2]
    · cases e
theorem lsk_ok : ∀ (l : FL) (j : Nat) (v : TV) (k : FL → Prop), (tvE v).category = 2 → lsk l j v k → ∃ l2, k l2 ∧ eg_put (lE l) j (tvE v) = some (lE l2)
  | [], _, _, _, _, h => h.elim
  | a :: r, 0, v, k, hv, h => by
    rw [eg_put_c2 hv]
    cases r with
    | nil => exact h.elim
    | cons b r2 =>
      rw [if_pos (by simp)]
      exact ⟨_, h, rfl⟩
  | a :: r, 1, v, k, hv, h => by
    rw [eg_put_c2 hv]
    match r, h with
    | [], h => exact h.elim
    | [b], h => exact h.elim
    | b :: b2 :: r2, h =>
      rw [if_pos (by simp)]
      rcases a with _ | ((x | x) | x)
      · exact ⟨_, h, rfl⟩
      · exact ⟨_, h, rfl⟩
      · exact ⟨_, h, rfl⟩
      · refine ⟨_, h, ?_⟩
        have e : (tvE (.inr x)).category = 1 := by rw [tv_cat]
        simp only [eg_cl, List.map_cons, List.getElem?_cons_zero, Option.map_some]
        rw [if_neg (by omega)]
        rfl
  | a :: r, j + 2, v, k, hv, h => by
    obtain ⟨l2, h2, e⟩ := lsk_ok r (j + 1) v (fun r2 => k (a :: r2)) hv h
    refine ⟨a :: l2, h2, ?_⟩
    rw [eg_put_c2 hv] at e ⊢
    split at e
    · next hl =>
      have e2 := Option.some.inj e
      rw [if_pos (show j + 2 + 1 < (lE (a :: r)).length from Nat.succ_lt_succ hl)]
      show some (((eg_cl (a.map tvE :: lE r) (j + 2)).set (j + 2) (some (tvE v))).set (j + 2 + 1) none) = some (a.map tvE :: lE l2)
      rw [eg_cl_cons, List.set_cons_succ, List.set_cons_succ, e2]
    · cases e
