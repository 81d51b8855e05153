/-! THE PURE MACHINE, part 3: branches -/
/-- where the numbered cells lie: those below K0 are old and are only read, the others one behind the other from base on -/
def eg_ad (ad : Nat → Nat) (K0 base : Nat) : Prop := ∀ k : Nat, (k < K0 → ad k < base) ∧ (K0 ≤ k → ad k = base + (k - K0))
theorem eg_ad.ne {ad : Nat → Nat} {K0 base j k : Nat} (h : eg_ad ad K0 base) (hk : K0 ≤ k) (hne : j ≠ k) : ad j ≠ ad k := by
  intro q
  have h2 := (h k).2 hk
  rcases Nat.lt_or_ge j K0 with a | a
  · have h1 := (h j).1 a
    omega
  · have h1 := (h j).2 a
    omega
/-- a reference to a cell that may be told from others by its number -/
def eg_an (K0 : Nat) (v : Value) : Option (Option Nat) := match v with
  | .null => some none
  | .ref k => if K0 ≤ k then some (some k) else none
  | _ => none
theorem eg_an_ok {K0 : Nat} {v : Value} {a : Option Nat} (ad : Nat → Nat) (h : eg_an K0 v = some a) : eg_cv ad v = va_rf (a.map ad) ∧ ∀ k, a = some k → K0 ≤ k := by
  unfold eg_an at h
  split at h
  · cases h; exact ⟨rfl, fun k q => by cases q⟩
  · split at h
    · next hk => cases h; exact ⟨rfl, fun k q => by cases q; exact hk⟩
    · cases h
  · cases h
theorem eg_an_inj {K0 base : Nat} {ad : Nat → Nat} {a b : Option Nat} (had : eg_ad ad K0 base) (ha : ∀ k, a = some k → K0 ≤ k) (hb : ∀ k, b = some k → K0 ≤ k) : a.map ad = b.map ad ↔ a = b := by
  constructor
  · intro h
    cases a with
    | none => cases b with
      | none => rfl
      | some y => cases h
    | some x => cases b with
      | none => cases h
      | some y =>
        have h2 : ad x = ad y := Option.some.inj h
        by_cases e : x = y
        · rw [e]
        · exact absurd h2 (had.ne (hb y rfl) e)
  · intro h; rw [h]
def eg_acnd (q : ClassFile.ACond) (a b : Option Nat) : Bool := match q with
  | .eq => decide (a = b)
  | .ne => decide (¬ a = b)
def eg_cnd (q : ClassFile.Cond) (x y : Int32) : Bool := match q with
  | .eq => decide (x = y)
  | .ne => decide (¬ x = y)
  | .lt => decide (x < y)
  | .ge => decide (y ≤ x)
  | .gt => decide (y < x)
  | .le => decide (x ≤ y)
def eg_j (pc : Nat) (off : Int) (r : List Value) : Option (Nat × List Value) := if 0 ≤ (pc : Int) + off then some (((pc : Int) + off).toNat, r) else none
def eg_if (pc : Nat) (b : Bool) (off : Int) (r : List Value) : Option (Nat × List Value) := if 0 ≤ (pc : Int) + off then some (if b = true then ((pc : Int) + off).toNat else pc + 3, r) else none
/-- a branch: where to, and the stack behind it -/
def eg_b (K0 pc : Nat) (i : Instr) (st : List Value) : Option (Nat × List Value) := match i with
  | .goto off => eg_j pc off st
  | .ifCond q off => match st with
    | .int x :: r => eg_if pc (eg_cnd q x 0) off r
    | _ => none
  | .if_icmp q off => match st with
    | .int y :: .int x :: r => eg_if pc (eg_cnd q x y) off r
    | _ => none
  | .if_acmp q off => match st with
    | w :: v :: r => (match eg_an K0 v, eg_an K0 w with
      | some a, some b => eg_if pc (eg_acnd q a b) off r
      | _, _ => none)
    | _ => none
  | .ifnull off => match st with
    | .null :: r => eg_j pc off r
    | .ref _ :: r => some (pc + 3, r)
    | _ => none
  | .ifnonnull off => match st with
    | .ref _ :: r => eg_j pc off r
    | .null :: r => some (pc + 3, r)
    | _ => none
  | .tableswitch dflt lo hi offs => match st with
    | .int x :: r => if x.toInt < lo ∨ hi < x.toInt then eg_j pc dflt r else (match offs[(x.toInt - lo).toNat]? with
      | some off => eg_j pc off r
      | none => none)
    | _ => none
  | .lookupswitch dflt ps => match st with
    | .int x :: r => if (ps.toList.zip (ps.toList.drop 1)).all (fun (a, next) => a.1 < next.1) = true then eg_j pc (Op.lookupswitch.offset ps.toList dflt x.toInt) r else none
    | _ => none
  | _ => none
/-- the lengths that branches have here -/
def eg_bl (i : Instr) (n : Nat) : Bool := match i with
  | .tableswitch _ _ _ _ => true
  | .lookupswitch _ _ => true
  | _ => n == 3
section EGB
variable {p : Program} {l : Launch} {e : Env} {R : Room} {s : State} {m : MethodId} {args : Array Value} {below : List Frame} {meth : Method} {c : Code} {H : Heap} {locs : List Loc} {cells slots : Nat} {Q : State → Prop}
variable {cc : ByteArray} {pc pc2 n : Nat} {ls : Array Slot} {st st2 : List Value} {ad : Nat → Nat} {K0 base : Nat}
theorem eg_j_ok {off : Int} {r pre : List Value} (h : eg_j pc off r = some (pc2, st2))
    (row : ∀ tgt : Nat, (pc : Int) + off = (tgt : Int) → W p l e R s m args below meth c H locs cells slots Q (F0 m tgt ls (r.map (eg_cv ad))) → W p l e R s m args below meth c H locs cells slots Q (F0 m pc ls pre))
    (k : W p l e R s m args below meth c H locs cells slots Q (F0 m pc2 ls (st2.map (eg_cv ad)))) : W p l e R s m args below meth c H locs cells slots Q (F0 m pc ls pre) := by
  unfold eg_j at h
  split at h
  · next h0 =>
    cases h
    exact row _ (Int.toNat_of_nonneg h0).symm k
  · cases h
theorem eg_if_ok {b : Bool} {off : Int} {r pre : List Value} (h : eg_if pc b off r = some (pc2, st2)) {P : Prop} (hP : b = true ↔ P)
    (row : ∀ tgt : Nat, (pc : Int) + off = (tgt : Int) → (P → W p l e R s m args below meth c H locs cells slots Q (F0 m tgt ls (r.map (eg_cv ad)))) → (¬ P → W p l e R s m args below meth c H locs cells slots Q (F0 m (pc + 3) ls (r.map (eg_cv ad)))) → W p l e R s m args below meth c H locs cells slots Q (F0 m pc ls pre))
    (k : W p l e R s m args below meth c H locs cells slots Q (F0 m pc2 ls (st2.map (eg_cv ad)))) : W p l e R s m args below meth c H locs cells slots Q (F0 m pc ls pre) := by
  unfold eg_if at h
  split at h
  · next h0 =>
    cases h
    by_cases hb1 : b = true
    · rw [if_pos hb1] at k
      exact row _ (Int.toNat_of_nonneg h0).symm (fun _ => k) (fun q => absurd (hP.mp hb1) q)
    · rw [if_neg hb1] at k
      exact row _ (Int.toNat_of_nonneg h0).symm (fun q => absurd (hP.mpr q) hb1) (fun _ => k)
  · cases h
set_option maxHeartbeats 4000000 in
theorem eg_b_ok (hx : p.tables.exec = Jvm.exec) (hb : c.code = cc) (had : eg_ad ad K0 base) {i : Instr} (hd : decode cc pc = .ok (i, n)) (hn : eg_bl i n = true) (h : eg_b K0 pc i st = some (pc2, st2))
    (k : W p l e R s m args below meth c H locs cells slots Q (F0 m pc2 ls (st2.map (eg_cv ad)))) : W p l e R s m args below meth c H locs cells slots Q (F0 m pc ls (st.map (eg_cv ad))) := by
  cases i <;> (try (exact eg_no h))
  case goto off =>
    have h3 : n = 3 := by simpa [eg_bl] using hn
    subst h3
    exact eg_j_ok h (fun tgt ht k => lv_goto hx hb hd ht k) k
  case ifCond q off =>
    have h3 : n = 3 := by simpa [eg_bl] using hn
    subst h3
    simp only [eg_b] at h
    split at h
    · cases q
      · exact eg_if_ok h (P := _ = 0) (by simp [eg_cnd]) (fun tgt ht a b => lv_if_eq hx hb hd ht a b) k
      · exact eg_if_ok h (P := ¬ _ = 0) (by simp [eg_cnd]) (fun tgt ht a b => lv_if_ne hx hb hd ht a (fun q => b (fun z => z q))) k
      · exact eg_if_ok h (P := _ < 0) (by simp [eg_cnd]) (fun tgt ht a b => lv_if_lt hx hb hd ht a b) k
      · exact eg_if_ok h (P := 0 ≤ _) (by simp [eg_cnd]) (fun tgt ht a b => lv_if_ge hx hb hd ht a b) k
      · exact eg_if_ok h (P := 0 < _) (by simp [eg_cnd]) (fun tgt ht a b => lv_if_gt hx hb hd ht a b) k
      · exact eg_if_ok h (P := _ ≤ 0) (by simp [eg_cnd]) (fun tgt ht a b => lv_if_le hx hb hd ht a b) k
    · cases h
  case if_icmp q off =>
    have h3 : n = 3 := by simpa [eg_bl] using hn
    subst h3
    simp only [eg_b] at h
    split at h
    · next y x r =>
      cases q
      · exact eg_if_ok h (P := x = y) (by simp [eg_cnd]) (fun tgt ht a b => lv_icmp_eq hx hb hd ht a b) k
      · exact eg_if_ok h (P := ¬ x = y) (by simp [eg_cnd]) (fun tgt ht a b => lv_icmp_ne hx hb hd ht a (fun q => b (fun z => z q))) k
      · exact eg_if_ok h (P := x < y) (by simp [eg_cnd]) (fun tgt ht a b => lv_icmp_lt hx hb hd ht a b) k
      · exact eg_if_ok h (P := y ≤ x) (by simp [eg_cnd]) (fun tgt ht a b => lv_icmp_ge hx hb hd ht a b) k
      · exact eg_if_ok h (P := y < x) (by simp [eg_cnd]) (fun tgt ht a b => lv_icmp_gt hx hb hd ht a b) k
      · exact eg_if_ok h (P := x ≤ y) (by simp [eg_cnd]) (fun tgt ht a b => lv_icmp_le hx hb hd ht a b) k
    · cases h
  case if_acmp q off =>
    have h3 : n = 3 := by simpa [eg_bl] using hn
    subst h3
    simp only [eg_b] at h
    split at h
    · next w v r =>
      split at h
      · next a b ha hb2 =>
        obtain ⟨e1, f1⟩ := eg_an_ok ad ha
        obtain ⟨e2, f2⟩ := eg_an_ok ad hb2
        have hi := eg_an_inj had f1 f2
        rw [List.map_cons, List.map_cons, e1, e2]
        cases q
        · exact eg_if_ok h (P := a.map ad = b.map ad) (by rw [hi]; simp [eg_acnd]) (fun tgt ht x y => lv_acmp_eq hx hb hd ht x y) k
        · exact eg_if_ok h (P := ¬ a.map ad = b.map ad) (by rw [hi]; simp [eg_acnd]) (fun tgt ht x y => lv_acmp_ne hx hb hd ht x (fun q => y (fun z => z q))) k
      · cases h
    · cases h
  case ifnull off =>
    have h3 : n = 3 := by simpa [eg_bl] using hn
    subst h3
    simp only [eg_b] at h
    split at h
    · exact eg_j_ok h (fun tgt ht k => lv_ifnullN hx hb hd ht k) k
    · cases h; exact lv_ifnull hx hb hd k
    · cases h
  case ifnonnull off =>
    have h3 : n = 3 := by simpa [eg_bl] using hn
    subst h3
    simp only [eg_b] at h
    split at h
    · exact eg_j_ok h (fun tgt ht k => lv_ifnonnull hx hb hd ht k) k
    · cases h; exact lv_ifnonnullN hx hb hd k
    · cases h
  case tableswitch dflt lo hi offs =>
    simp only [eg_b] at h
    split at h
    · split at h
      · next ho => exact eg_j_ok h (fun tgt ht k => lv_tableOut hx hb hd ho ht k) k
      · next ho =>
        split at h
        · next off hof => exact eg_j_ok h (fun tgt ht k => lv_tableIn hx hb hd (fun q => ho (Or.inl q)) (fun q => ho (Or.inr q)) hof ht k) k
        · cases h
    · cases h
  case lookupswitch dflt ps =>
    simp only [eg_b] at h
    split at h
    · split at h
      · next ho => exact eg_j_ok h (fun tgt ht k => lv_lookup hx hb hd ho rfl ht k) k
      · cases h
    · cases h
end EGB
