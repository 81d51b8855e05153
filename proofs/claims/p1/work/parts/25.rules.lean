/-! RUNS OF THE PURE MACHINE, AS A LOGIC: more steps and deeper calls do no harm; rules for a step, a call, a return -/
def eg_sub (f g : eg_F) : Prop := ∀ (j : Nat) (as : List Value) (h : eg_H) (r : Option Value × eg_H), f j as h = some r → g j as h = some r
/-- which call stands here: the method, what it is given, what stays on the stack -/
def eg_cq (P : Nat → Option eg_E) (i : Instr) (st : List Value) (h : eg_H) : Option (Nat × List Value × List Value) := match i with
  | .invokestatic ix => (match P ix with
    | some q => if (q.1 = 7 ∨ q.1 = 9) ∧ q.2.2.1 ≤ st.length ∧ eg_sum (st.drop q.2.2.1) ≤ 8 then some (q.2.1, (st.take q.2.2.1).reverse, st.drop q.2.2.1) else none
    | none => none)
  | .invokevirtual ix => (match P ix with
    | some q => if (q.1 = 6 ∨ q.1 = 8) ∧ q.2.2.1 ≤ st.length then (match st.drop q.2.2.1 with
      | .ref a :: r => (match h.1 a with
        | some (.inr o) => if q.2.2.2 = .ref o.1 ∧ eg_sum r ≤ 8 then some (q.2.1, .ref a :: (st.take q.2.2.1).reverse, r) else none
        | _ => none)
      | _ => none) else none
    | none => none)
  | .invokespecial ix => (match P ix with
    | some q => if (q.1 = 5 ∨ q.1 = 10) ∧ q.2.2.1 ≤ st.length then (match st.drop q.2.2.1 with
      | .ref a :: r => if eg_sum r ≤ 8 then some (q.2.1, .ref a :: (st.take q.2.2.1).reverse, r) else none
      | _ => none) else none
    | none => none)
  | _ => none
theorem eg_c_eq {P : Nat → Option eg_E} {f : eg_F} {i : Instr} {st : List Value} {h : eg_H} : eg_c P f i st h = (match eg_cq P i st h with
    | some q => eg_back q.2.2 (f q.1 q.2.1 h)
    | none => none) := by
  cases i <;> first | rfl | skip
  · next ix =>
    simp only [eg_c, eg_cq]
    cases P ix with
    | none => rfl
    | some q =>
      dsimp only
      by_cases hc : (q.1 = 5 ∨ q.1 = 10) ∧ q.2.2.1 ≤ st.length
      · rw [if_pos hc, if_pos hc]
        cases st.drop q.2.2.1 with
        | nil => rfl
        | cons w r =>
          cases w with
          | ref a =>
            dsimp only
            by_cases h8 : eg_sum r ≤ 8
            · rw [if_pos h8, if_pos h8]
            · rw [if_neg h8, if_neg h8]
          | _ => rfl
      · rw [if_neg hc, if_neg hc]
  · next ix =>
    simp only [eg_c, eg_cq]
    cases P ix with
    | none => rfl
    | some q =>
      dsimp only
      by_cases hc : (q.1 = 7 ∨ q.1 = 9) ∧ q.2.2.1 ≤ st.length ∧ eg_sum (st.drop q.2.2.1) ≤ 8
      · rw [if_pos hc, if_pos hc]
      · rw [if_neg hc, if_neg hc]
  · next ix =>
    simp only [eg_c, eg_cq]
    cases P ix with
    | none => rfl
    | some q =>
      dsimp only
      by_cases hc : (q.1 = 6 ∨ q.1 = 8) ∧ q.2.2.1 ≤ st.length
      · rw [if_pos hc, if_pos hc]
        cases st.drop q.2.2.1 with
        | nil => rfl
        | cons w r =>
          cases w with
          | ref a =>
            dsimp only
            cases h.1 a with
            | none => rfl
            | some cc =>
              cases cc with
              | inl z => rfl
              | inr o =>
                dsimp only
                by_cases h8 : q.2.2.2 = .ref o.1 ∧ eg_sum r ≤ 8
                · rw [if_pos h8, if_pos h8]
                · rw [if_neg h8, if_neg h8]
          | _ => rfl
      · rw [if_neg hc, if_neg hc]
theorem eg_c_mono {P : Nat → Option eg_E} {f g : eg_F} (hs : eg_sub f g) {i : Instr} {st : List Value} {h : eg_H} {r : List Value × eg_H} (hc : eg_c P f i st h = some r) : eg_c P g i st h = some r := by
  rw [eg_c_eq] at hc ⊢
  cases hq : eg_cq P i st h with
  | none => rw [hq] at hc; cases hc
  | some q =>
    rw [hq] at hc
    dsimp only at hc ⊢
    unfold eg_back at hc ⊢
    cases hf : f q.1 q.2.1 h with
    | none => rw [hf] at hc; cases hc
    | some z =>
      rw [hf] at hc
      rw [hs _ _ _ _ hf]
      exact hc
section EGRULES
variable {cl : List vw_C} {ty : Nat → Nat → FieldType} {K0 : Nat} {mt : Nat → Option eg_D}
theorem eg_step_mono {M : eg_M} {f g : eg_F} (hs : eg_sub f g) {x y : eg_S} (h : eg_step cl ty K0 M f x = some y) : eg_step cl ty K0 M g x = some y := by
  unfold eg_step at h ⊢
  cases hM : M.1 x.1 with
  | none => rw [hM] at h; cases h
  | some q =>
    obtain ⟨i, n⟩ := q
    rw [hM] at h
    dsimp only at h ⊢
    cases hp : eg_p i x.2.2.1 with
    | some z => rw [hp] at h; exact h
    | none =>
      rw [hp] at h
      dsimp only at h ⊢
      cases hv : eg_v i x.2.1 x.2.2.1 with
      | some z => rw [hv] at h; exact h
      | none =>
        rw [hv] at h
        dsimp only at h ⊢
        cases hb : eg_b K0 x.1 i x.2.2.1 with
        | some z => rw [hb] at h; exact h
        | none =>
          rw [hb] at h
          dsimp only at h ⊢
          cases hh : eg_h cl ty K0 M.2 i x.2.2.1 x.2.2.2 with
          | some z => rw [hh] at h; exact h
          | none =>
            rw [hh] at h
            dsimp only at h ⊢
            cases hc : eg_c M.2 f i x.2.2.1 x.2.2.2 with
            | none => rw [hc] at h; cases h
            | some z =>
              rw [hc] at h
              rw [eg_c_mono hs hc]
              exact h
theorem eg_run_mono {t : Option FieldType} {M : eg_M} {f g : eg_F} (hs : eg_sub f g) : ∀ (n m : Nat) (x : eg_S) (r : Option Value × eg_H), n ≤ m → eg_run cl ty K0 t M f n x = some r → eg_run cl ty K0 t M g m x = some r
  | 0, m, x, r, _, h => by cases h
  | n + 1, m, x, r, hnm, h => by
    obtain ⟨k, rfl⟩ : ∃ k, m = k + 1 := ⟨m - 1, by omega⟩
    simp only [eg_run] at h ⊢
    cases hr : eg_ret t M x with
    | some v => rw [hr] at h; exact h
    | none =>
      rw [hr] at h
      dsimp only at h ⊢
      cases hy : eg_step cl ty K0 M f x with
      | none => rw [hy] at h; cases h
      | some y =>
        rw [hy] at h
        rw [eg_step_mono hs hy]
        exact eg_run_mono hs n k y r (by omega) h
theorem eg_go_mono {n m : Nat} (hnm : n ≤ m) : ∀ (d e : Nat), d ≤ e → eg_sub (eg_go cl ty K0 mt n d) (eg_go cl ty K0 mt m e)
  | 0, e, _, j, as, h, r, q => by cases q
  | d + 1, e, hde, j, as, h, r, q => by
    obtain ⟨k, rfl⟩ : ∃ k, e = k + 1 := ⟨e - 1, by omega⟩
    simp only [eg_go] at q ⊢
    cases hy : mt j with
    | none => rw [hy] at q; cases q
    | some y =>
      rw [hy] at q
      dsimp only at q ⊢
      cases hl : eg_in0 as y.2.2.1 with
      | none => rw [hl] at q; cases q
      | some la =>
        rw [hl] at q
        exact eg_run_mono (eg_go_mono hnm d k (by omega)) n m _ r hnm q
/-- from here on the run returns v, with these cells -/
def eg_W (cl : List vw_C) (ty : Nat → Nat → FieldType) (K0 : Nat) (mt : Nat → Option eg_D) (d : Nat) (t : Option FieldType) (M : eg_M) (x : eg_S) (v : Option Value) (h2 : eg_H) : Prop := ∃ n, eg_run cl ty K0 t M (eg_go cl ty K0 mt n d) n x = some (v, h2)
/-- a method answers v, with these cells -/
def eg_V (cl : List vw_C) (ty : Nat → Nat → FieldType) (K0 : Nat) (mt : Nat → Option eg_D) (d j : Nat) (as : List Value) (h : eg_H) (v : Option Value) (h2 : eg_H) : Prop := ∃ n, eg_go cl ty K0 mt n d j as h = some (v, h2)
variable {t : Option FieldType} {M : eg_M} {d : Nat} {x y : eg_S} {v : Option Value} {h h2 : eg_H}
theorem eg_W.mono {e : Nat} (hde : d ≤ e) (k : eg_W cl ty K0 mt d t M x v h2) : eg_W cl ty K0 mt e t M x v h2 := by
  obtain ⟨n, hn⟩ := k
  exact ⟨n, eg_run_mono (eg_go_mono (Nat.le_refl n) d e hde) n n x _ (Nat.le_refl n) hn⟩
theorem eg_V.mono {j e : Nat} {as : List Value} (hde : d ≤ e) (k : eg_V cl ty K0 mt d j as h v h2) : eg_V cl ty K0 mt e j as h v h2 := by
  obtain ⟨n, hn⟩ := k
  exact ⟨n, eg_go_mono (Nat.le_refl n) d e hde _ _ _ _ hn⟩
theorem eg_W.ret (hr : eg_ret t M x = some v) (hh : x.2.2.2 = h2) : eg_W cl ty K0 mt d t M x v h2 := by
  subst hh
  exact ⟨1, by simp [eg_run, hr]⟩
theorem eg_W.step (h0 : eg_ret t M x = none) (h1 : eg_step cl ty K0 M (fun _ _ _ => none) x = some y) (k : eg_W cl ty K0 mt d t M y v h2) : eg_W cl ty K0 mt d t M x v h2 := by
  obtain ⟨n, hn⟩ := k
  refine ⟨n + 1, ?_⟩
  simp only [eg_run, h0]
  rw [eg_step_mono (f := fun _ _ _ => none) (fun _ _ _ _ q => by cases q) h1]
  exact eg_run_mono (eg_go_mono (Nat.le_succ n) d d (Nat.le_refl d)) n n y _ (Nat.le_refl n) hn
/-- k steps without calls -/
def eg_stp (cl : List vw_C) (ty : Nat → Nat → FieldType) (K0 : Nat) (t : Option FieldType) (M : eg_M) : Nat → eg_S → Option eg_S
  | 0, x => some x
  | k + 1, x => (match eg_ret t M x with
    | some _ => none
    | none => (match eg_step cl ty K0 M (fun _ _ _ => none) x with
      | some y => eg_stp cl ty K0 t M k y
      | none => none))
theorem eg_W.steps : ∀ (n : Nat) {x y : eg_S}, eg_stp cl ty K0 t M n x = some y → eg_W cl ty K0 mt d t M y v h2 → eg_W cl ty K0 mt d t M x v h2
  | 0, x, y, h, k => by cases h; exact k
  | n + 1, x, y, h, k => by
    simp only [eg_stp] at h
    split at h
    · cases h
    · next h0 =>
      split at h
      · next z hz => exact eg_W.step h0 hz (eg_W.steps n h k)
      · cases h
/-- the call that stands at a state -/
def eg_cx (cl : List vw_C) (ty : Nat → Nat → FieldType) (K0 : Nat) (t : Option FieldType) (M : eg_M) (x : eg_S) : Option (Nat × List Value × List Value) := match eg_ret t M x with
  | some _ => none
  | none => (match M.1 x.1 with
    | some (i, n) => (match eg_p i x.2.2.1 with
      | some _ => none
      | none => (match eg_v i x.2.1 x.2.2.1 with
        | some _ => none
        | none => (match eg_b K0 x.1 i x.2.2.1 with
          | some _ => none
          | none => (match eg_h cl ty K0 M.2 i x.2.2.1 x.2.2.2 with
            | some _ => none
            | none => if n = 3 then eg_cq M.2 i x.2.2.1 x.2.2.2 else none))))
    | none => none)
theorem eg_W.call {j : Nat} {as r : List Value} {v1 : Option Value} {h1 : eg_H} (hq : eg_cx cl ty K0 t M x = some (j, as, r)) (hv : eg_V cl ty K0 mt d j as x.2.2.2 v1 h1) (k : eg_W cl ty K0 mt d t M (x.1 + 3, x.2.1, v1.toList ++ r, h1) v h2) : eg_W cl ty K0 mt d t M x v h2 := by
  obtain ⟨n, hn⟩ := k
  obtain ⟨m, hm⟩ := hv
  refine ⟨max n m + 1, ?_⟩
  have hm2 : eg_go cl ty K0 mt (max n m + 1) d j as x.2.2.2 = some (v1, h1) := eg_go_mono (by omega) d d (Nat.le_refl d) _ _ _ _ hm
  have hn2 : eg_run cl ty K0 t M (eg_go cl ty K0 mt (max n m + 1) d) (max n m) (x.1 + 3, x.2.1, v1.toList ++ r, h1) = some (v, h2) := eg_run_mono (eg_go_mono (by omega) d d (Nat.le_refl d)) n _ _ _ (by omega) hn
  unfold eg_cx at hq
  cases hr : eg_ret t M x with
  | some z => rw [hr] at hq; cases hq
  | none =>
    rw [hr] at hq
    dsimp only at hq
    cases hM : M.1 x.1 with
    | none => rw [hM] at hq; cases hq
    | some w =>
      obtain ⟨i, len⟩ := w
      rw [hM] at hq
      dsimp only at hq
      cases e1 : eg_p i x.2.2.1 with
      | some z => rw [e1] at hq; cases hq
      | none =>
        rw [e1] at hq
        dsimp only at hq
        cases e2 : eg_v i x.2.1 x.2.2.1 with
        | some z => rw [e2] at hq; cases hq
        | none =>
          rw [e2] at hq
          dsimp only at hq
          cases e3 : eg_b K0 x.1 i x.2.2.1 with
          | some z => rw [e3] at hq; cases hq
          | none =>
            rw [e3] at hq
            dsimp only at hq
            cases e4 : eg_h cl ty K0 M.2 i x.2.2.1 x.2.2.2 with
            | some z => rw [e4] at hq; cases hq
            | none =>
              rw [e4] at hq
              dsimp only at hq
              split at hq
              · next h3 =>
                subst h3
                have hst : eg_step cl ty K0 M (eg_go cl ty K0 mt (max n m + 1) d) x = some (x.1 + 3, x.2.1, v1.toList ++ r, h1) := by
                  unfold eg_step
                  rw [hM]
                  dsimp only
                  rw [e1]
                  dsimp only
                  rw [e2]
                  dsimp only
                  rw [e3]
                  dsimp only
                  rw [e4]
                  dsimp only
                  rw [eg_c_eq, hq]
                  dsimp only
                  rw [hm2]
                  rfl
                simp only [eg_run, hr]
                rw [hst]
                exact hn2
              · cases hq
theorem eg_V.of {j : Nat} {as : List Value} {w : eg_D} {la : eg_L} (hj : mt j = some w) (hl : eg_in0 as w.2.2.1 = some la) (k : eg_W cl ty K0 mt d w.2.2.2.1 w.2.2.2.2 (0, la, [], h) v h2) : eg_V cl ty K0 mt (d + 1) j as h v h2 := by
  obtain ⟨n, hn⟩ := k
  refine ⟨n, ?_⟩
  simp only [eg_go, hj, hl]
  exact hn
end EGRULES
