/-! THE BEGINNING: what the constructors made, as flat cells -/
def dcV (v : Value) : Int := match v with
  | .int x => x.toInt
  | .long x => x.toInt
  | .null => -1
  | .ref a => (a : Nat)
  | _ => 0
/-- no token -/
def plV (v : Value) : Bool := match v with
  | .retAddr _ => false
  | .double _ => false
  | _ => true
theorem plV_ok {σ : sg} {v : Value} (h : plV v = true) : sv σ v = v := by
  cases v <;> first | rfl | cases h
def okV (t : FieldType) (v : Value) : Bool := decide (dv t (dcV v) = v) && plV v
theorem okV_ok {σ : sg} {t : FieldType} {v : Value} (h : okV t v = true) : dv t (dcV v) = sv σ v := by
  unfold okV at h
  rw [Bool.and_eq_true] at h
  rw [plV_ok h.2]
  exact of_decide_eq_true h.1
/-- a cell's numbers -/
noncomputable def cvI (q : ecq) (i : Int) : Int := match q.1 with
  | .inl t => if 0 ≤ i ∧ i < q.2.1 then dcV (ev_d q.2.2.1 (bf_get q.2.2.2 i.toNat)) else dcV (defaultValue t)
  | .inr _ => dcV (ev_d q.2.2.1 (bf_get q.2.2.2 i.toNat))
noncomputable def okF (ty : Nat → FieldType) (d : Value) (A : Nat) : List (Option (Option Nat)) → Nat → Bool
  | [], _ => true
  | none :: r, i => okV (ty i) (ev_d d (bf_get A i)) && okF ty d A r (i + 1)
  | some none :: r, i => decide (ev_d d (bf_get A i) = .null) && okF ty d A r (i + 1)
  | some (some b) :: r, i => decide (ev_d d (bf_get A i) = .ref b) && okF ty d A r (i + 1)
theorem okF_ok {σ : sg} {ty : Nat → FieldType} {d : Value} {A : Nat} : ∀ (fl : List (Option (Option Nat))) (k : Nat), okF ty d A fl k = true → fvs ty fl k (fun i => dcV (ev_d d (bf_get A i.toNat))) = (List.range' k fl.length).map fun i => sv σ (ev_d d (bf_get A i))
  | [], _, _ => rfl
  | none :: r, k, h => by
    have h2 : (okV (ty k) (ev_d d (bf_get A k)) && okF ty d A r (k + 1)) = true := h
    rw [Bool.and_eq_true] at h2
    have ih := okF_ok (σ := σ) r (k + 1) h2.2
    show dv (ty k) (dcV (ev_d d (bf_get A ((k : Nat) : Int).toNat))) :: fvs ty r (k + 1) _ = (List.range' k (r.length + 1)).map _
    rw [ih, Int.toNat_natCast, okV_ok (σ := σ) h2.1]
    rfl
  | some none :: r, k, h => by
    have h2 : (decide (ev_d d (bf_get A k) = .null) && okF ty d A r (k + 1)) = true := h
    rw [Bool.and_eq_true] at h2
    have ih := okF_ok (σ := σ) r (k + 1) h2.2
    have e := of_decide_eq_true h2.1
    show Value.null :: fvs ty r (k + 1) _ = (List.range' k (r.length + 1)).map _
    rw [ih]
    show _ = sv σ (ev_d d (bf_get A k)) :: _
    rw [e]
    rfl
  | some (some b) :: r, k, h => by
    have h2 : (decide (ev_d d (bf_get A k) = .ref b) && okF ty d A r (k + 1)) = true := h
    rw [Bool.and_eq_true] at h2
    have ih := okF_ok (σ := σ) r (k + 1) h2.2
    have e := of_decide_eq_true h2.1
    show Value.ref b :: fvs ty r (k + 1) _ = (List.range' k (r.length + 1)).map _
    rw [ih]
    show _ = sv σ (ev_d d (bf_get A k)) :: _
    rw [e]
    rfl
noncomputable def okC (s : Shp) (q : ecq) : Bool := match s, q.1 with
  | .inl (t, n), .inl t2 => decide (t = t2) && decide (n = q.2.1) && okV t (defaultValue t) && ((Nat.beq q.2.2.2 0 && okV t (ev_d q.2.2.1 0)) || (List.range n).all fun i => okV t (ev_d q.2.2.1 (bf_get q.2.2.2 i)))
  | .inr (k, fl), .inr k2 => decide (k = k2) && decide (fl.length = q.2.1) && okF (kY k) q.2.2.1 q.2.2.2 fl 0
  | _, _ => false
theorem bf_0 (i : Nat) : bf_get 0 i = 0 := by
  show (0 >>> (72 * (i + 1))) % 4722366482869645213696 = 0
  rw [Nat.zero_shiftRight]
theorem okC_ok {σ : sg} {s : Shp} {q : ecq} (h : okC s q = true) : cellE s (cvI q) = ec_c σ q := by
  obtain ⟨t0, m, d, A⟩ := q
  cases s with
  | inl tn =>
    obtain ⟨t, n⟩ := tn
    cases t0 with
    | inr k => cases h
    | inl t2 =>
      have h2 : (decide (t = t2) && decide (n = m) && okV t (defaultValue t) && ((Nat.beq A 0 && okV t (ev_d d 0)) || (List.range n).all fun i => okV t (ev_d d (bf_get A i)))) = true := h
      rw [Bool.and_eq_true, Bool.and_eq_true, Bool.and_eq_true] at h2
      obtain ⟨⟨⟨h3, h4⟩, h5⟩, h6⟩ := h2
      have e1 := of_decide_eq_true h3
      have e2 := of_decide_eq_true h4
      subst e1
      subst e2
      have VAL : ∀ i : Nat, i < n → okV t (ev_d d (bf_get A i)) = true := fun i hi => by
        rw [Bool.or_eq_true] at h6
        rcases h6 with h6 | h6
        · rw [Bool.and_eq_true] at h6
          have eA : A = 0 := Nat.eq_of_beq_eq_true h6.1
          rw [eA, bf_0]
          exact h6.2
        · exact List.all_eq_true.1 h6 i (List.mem_range.2 hi)
      show (Sum.inl (t, n, fun i : Nat => dv t (cvI (.inl t, n, d, A) i)) : eg_C) = Sum.inl (t, n, fun i => bif Nat.blt i n then sv σ (ev_d d (bf_get A i)) else defaultValue t)
      have ef : (fun i : Nat => dv t (cvI (.inl t, n, d, A) i)) = fun i => bif Nat.blt i n then sv σ (ev_d d (bf_get A i)) else defaultValue t := by
        funext i
        show dv t (if 0 ≤ ((i : Nat) : Int) ∧ ((i : Nat) : Int) < ((n : Nat) : Int) then dcV (ev_d d (bf_get A ((i : Nat) : Int).toNat)) else dcV (defaultValue t)) = _
        by_cases hi : i < n
        · rw [if_pos (by omega), Int.toNat_natCast, okV_ok (σ := σ) (VAL i hi), blt_t hi]
          rfl
        · have e3 : Nat.blt i n = false := by
            cases q : Nat.blt i n with
            | false => rfl
            | true => exact absurd (bl q) hi
          rw [if_neg (by omega), e3]
          unfold okV at h5
          rw [Bool.and_eq_true] at h5
          exact of_decide_eq_true h5.1
      rw [ef]
  | inr kf =>
    obtain ⟨k, fl⟩ := kf
    cases t0 with
    | inl t2 => cases h
    | inr k2 =>
      have h2 : (decide (k = k2) && decide (fl.length = m) && okF (kY k) d A fl 0) = true := h
      rw [Bool.and_eq_true, Bool.and_eq_true] at h2
      obtain ⟨⟨h3, h4⟩, h5⟩ := h2
      have e1 := of_decide_eq_true h3
      have e2 := of_decide_eq_true h4
      subst e1
      subst e2
      show (Sum.inr (k, fvs (kY k) fl 0 (fun i => dcV (ev_d d (bf_get A i.toNat)))) : eg_C) = Sum.inr (k, (List.range fl.length).map fun i => sv σ (ev_d d (bf_get A i)))
      rw [okF_ok (σ := σ) fl 0 h5, List.range_eq_range']
noncomputable def okO (s : Option Shp) (q : ecq) : Bool := match s with
  | none => false
  | some s => okC s q
set_option maxHeartbeats 0 in
theorem Sa2_ck : ((List.range 265).all fun c => Nat.beq c 0 || okO (fsh c) (g9 Sa2h c)) = true := by decide +kernel
noncomputable def M1 (c : Nat) : Int → Int := cvI (g9 Sa2h c)
noncomputable def Ms (xs : Nat → Int32) : FM := fun c i => if c = 0 then (xs i.toNat).toInt else M1 c i
theorem Ms_ne {xs : Nat → Int32} {c : Nat} (h : c ≠ 0) : Ms xs c = M1 c := by
  funext i
  exact if_neg h
def sh0 (L : Nat) : Nat → Option Shp := fun c => if c = 0 then some (.inl (.int, L)) else none
theorem E0 {σ : sg} {L : Nat} {xs : Nat → Int32} (hc : σ.2.2 = some (.inl (.int, L, fun j => .int (xs j)))) : fm_E (sh0 L, Ms xs, 265, 2656208) = eh_h σ Sa2.2.2 := by
  refine Prod.ext ?_ rfl
  funext c
  by_cases c0 : c = 0
  · subst c0
    rw [eh_0, hc]
    show (some (Sum.inl (FieldType.int, L, fun i : Nat => Value.int (Int32.ofInt ((xs ((i : Nat) : Int).toNat).toInt)))) : Option eg_C) = _
    have ef : (fun i : Nat => Value.int (Int32.ofInt ((xs ((i : Nat) : Int).toNat).toInt))) = fun j => Value.int (xs j) := by
      funext i
      rw [Int.toNat_natCast, Int32.ofInt_toInt]
    rw [ef]
  · by_cases c1 : c < 265
    · rw [eh_at (h := Sa2.2.2) ⟨by omega, c1⟩]
      have ck := List.all_eq_true.1 Sa2_ck c (List.mem_range.2 c1)
      have nb : Nat.beq c 0 = false := by
        cases q : Nat.beq c 0 with
        | false => rfl
        | true => exact absurd (Nat.eq_of_beq_eq_true q) c0
      rw [nb, Bool.false_or] at ck
      cases hf : fsh c with
      | none =>
        rw [hf] at ck
        cases ck
      | some s =>
        rw [hf] at ck
        have ck2 : okC s (g9 Sa2h c) = true := ck
        have es : shp (sh0 L) c = some s := by
          unfold shp
          rw [hf]
        show (shp (sh0 L) c).map (fun s => cellE s (Ms xs c)) = some (ec_c σ (g9 Sa2h c))
        rw [es, Ms_ne c0, ← okC_ok (σ := σ) ck2]
        rfl
    · rw [eh_no (h := Sa2.2.2) (by omega) c1]
      have es : shp (sh0 L) c = none := by
        have ef : fsh c = none := by
          unfold fsh
          have e3 : Nat.blt c fxN = false := by
            cases q : Nat.blt c fxN with
            | false => rfl
            | true => exact absurd (bl q) c1
          rw [e3]
          rfl
        unfold shp
        rw [ef]
        exact if_neg c0
      show (shp (sh0 L) c).map (fun s => cellE s (Ms xs c)) = none
      rw [es]
      rfl
