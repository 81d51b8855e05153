/-! WALKING THE PURE MACHINE: a rule an instruction; what stands at a place is found by computing -/
section EGWALK
variable {cl : List vw_C} {ty : Nat → Nat → FieldType} {K0 : Nat} {mt : Nat → Option eg_D} {d : Nat} {t : Option FieldType} {M : eg_M} {pc : Nat} {l : eg_L} {st : List Value} {h : eg_H} {v : Option Value} {h2 : eg_H}
/-- an instruction that is no return -/
def eg_nr (i : Instr) : Bool := match i with
  | .ireturn => false
  | .lreturn => false
  | .areturn => false
  | .return_ => false
  | _ => true
theorem eg_nr_ret {i : Instr} {n : Nat} (hM : M.1 pc = some (i, n)) (hi : eg_nr i = true) : eg_ret t M (pc, l, st, h) = none := by
  unfold eg_ret
  dsimp only
  rw [hM]
  cases i <;> first | rfl | cases hi
theorem w_step {i : Instr} {n : Nat} {y : eg_S} (hM : M.1 pc = some (i, n)) (hi : eg_nr i = true) (hy : eg_step cl ty K0 M (fun _ _ _ => none) (pc, l, st, h) = some y) (k : eg_W cl ty K0 mt d t M y v h2) : eg_W cl ty K0 mt d t M (pc, l, st, h) v h2 := eg_W.step (eg_nr_ret hM hi) hy k
/-- a stack instruction -/
theorem w_p (pc2 : Nat) {i : Instr} {n : Nat} {st2 : List Value} (hM : M.1 pc = some (i, n)) (hp : eg_p i st = some st2) (hn : n = eg_pl i) (hpc : pc + n = pc2) (k : eg_W cl ty K0 mt d t M (pc2, l, st2, h) v h2) : eg_W cl ty K0 mt d t M (pc, l, st, h) v h2 := by
  subst hpc
  refine w_step hM ?_ ?_ k
  · cases i <;> first | rfl | (exact eg_no hp)
  · simp only [eg_step, hM, hp]
    rw [if_pos hn]
theorem eg_v_p {i : Instr} {l2 : eg_L} {st2 : List Value} (hv : eg_v i l st = some (l2, st2)) : eg_p i st = none ∧ eg_nr i = true := by
  cases i <;> first | exact ⟨rfl, rfl⟩ | (exact eg_no hv)
/-- an instruction on the frame's places -/
theorem w_v (pc2 : Nat) (l2 : eg_L) {i : Instr} {n : Nat} {st2 : List Value} (hM : M.1 pc = some (i, n)) (hv : eg_v i l st = some (l2, st2)) (hn : n = eg_vl i) (hpc : pc + n = pc2) (k : eg_W cl ty K0 mt d t M (pc2, l2, st2, h) v h2) : eg_W cl ty K0 mt d t M (pc, l, st, h) v h2 := by
  subst hpc
  obtain ⟨e1, e2⟩ := eg_v_p hv
  refine w_step hM e2 ?_ k
  simp only [eg_step, hM, e1, hv]
  rw [if_pos (Or.inl hn)]
theorem eg_b_p {i : Instr} {pc2 : Nat} {st2 : List Value} (hb : eg_b K0 pc i st = some (pc2, st2)) : eg_p i st = none ∧ eg_v i l st = none ∧ eg_nr i = true := by
  cases i <;> first | exact ⟨rfl, rfl, rfl⟩ | (exact eg_no hb)
/-- a branch whose way is known -/
theorem w_b (pc2 : Nat) {i : Instr} {n : Nat} {st2 : List Value} (hM : M.1 pc = some (i, n)) (hb : eg_b K0 pc i st = some (pc2, st2)) (hn : eg_bl i n = true) (k : eg_W cl ty K0 mt d t M (pc2, l, st2, h) v h2) : eg_W cl ty K0 mt d t M (pc, l, st, h) v h2 := by
  obtain ⟨e1, e2, e3⟩ := eg_b_p (l := l) hb
  refine w_step hM e3 ?_ k
  simp only [eg_step, hM, e1, e2, hb]
  rw [if_pos hn]
/-- the two ways of a branch on ints -/
theorem w_icmp (tgt pc2 : Nat) {q : ClassFile.Cond} {off : Int} {x y : Int32} {r : List Value} (hM : M.1 pc = some (.if_icmp q off, 3)) (ht : (pc : Int) + off = (tgt : Int)) (hpc : pc + 3 = pc2) (kt : eg_cnd q x y = true → eg_W cl ty K0 mt d t M (tgt, l, r, h) v h2) (kf : eg_cnd q x y = false → eg_W cl ty K0 mt d t M (pc2, l, r, h) v h2) : eg_W cl ty K0 mt d t M (pc, l, .int y :: .int x :: r, h) v h2 := by
  subst hpc
  have h0 : 0 ≤ (pc : Int) + off := by rw [ht]; exact Int.natCast_nonneg tgt
  have e0 : ((pc : Int) + off).toNat = tgt := by rw [ht]; rfl
  cases hc : eg_cnd q x y with
  | true =>
    refine w_b tgt hM ?_ rfl (kt hc)
    simp only [eg_b, eg_if]
    rw [if_pos h0, hc, if_pos rfl, e0]
  | false =>
    refine w_b (pc + 3) hM ?_ rfl (kf hc)
    simp only [eg_b, eg_if]
    rw [if_pos h0, hc]
    rfl
theorem w_if (tgt pc2 : Nat) {q : ClassFile.Cond} {off : Int} {x : Int32} {r : List Value} (hM : M.1 pc = some (.ifCond q off, 3)) (ht : (pc : Int) + off = (tgt : Int)) (hpc : pc + 3 = pc2) (kt : eg_cnd q x 0 = true → eg_W cl ty K0 mt d t M (tgt, l, r, h) v h2) (kf : eg_cnd q x 0 = false → eg_W cl ty K0 mt d t M (pc2, l, r, h) v h2) : eg_W cl ty K0 mt d t M (pc, l, .int x :: r, h) v h2 := by
  subst hpc
  have h0 : 0 ≤ (pc : Int) + off := by rw [ht]; exact Int.natCast_nonneg tgt
  have e0 : ((pc : Int) + off).toNat = tgt := by rw [ht]; rfl
  cases hc : eg_cnd q x 0 with
  | true =>
    refine w_b tgt hM ?_ rfl (kt hc)
    simp only [eg_b, eg_if]
    rw [if_pos h0, hc, if_pos rfl, e0]
  | false =>
    refine w_b (pc + 3) hM ?_ rfl (kf hc)
    simp only [eg_b, eg_if]
    rw [if_pos h0, hc]
    rfl
theorem eg_h_p {P : Nat → Option eg_E} {i : Instr} {r : List Value × eg_H} (hh : eg_h cl ty K0 P i st h = some r) : eg_p i st = none ∧ eg_v i l st = none ∧ eg_b K0 pc i st = none ∧ eg_nr i = true := by
  cases i <;> first | exact ⟨rfl, rfl, rfl, rfl⟩ | (exact eg_no hh)
/-- an instruction on cells -/
theorem w_h (pc2 : Nat) {i : Instr} {n : Nat} {st2 : List Value} {hh : eg_H} (hM : M.1 pc = some (i, n)) (hs : eg_h cl ty K0 M.2 i st h = some (st2, hh)) (hn : n = eg_hl i) (hpc : pc + n = pc2) (k : eg_W cl ty K0 mt d t M (pc2, l, st2, hh) v h2) : eg_W cl ty K0 mt d t M (pc, l, st, h) v h2 := by
  subst hpc
  obtain ⟨e1, e2, e3, e4⟩ := eg_h_p (l := l) (pc := pc) hs
  refine w_step hM e4 ?_ k
  simp only [eg_step, hM, e1, e2, e3, hs]
  rw [if_pos hn]
theorem w_get (pc2 : Nat) {ix tg ci kf a : Nat} {z w : Value} {fs r : List Value} (hM : M.1 pc = some (.getfield ix, 3)) (hP : M.2 ix = some (tg, ci, kf, z)) (ht : (tg == 2 || tg == 3 || tg == 4 || tg == 15 || tg == 16) = true) (ha : h.1 a = some (.inr (ci, fs))) (hw : fs[kf]? = some w) (hpc : pc + 3 = pc2) (k : eg_W cl ty K0 mt d t M (pc2, l, w :: r, h) v h2) : eg_W cl ty K0 mt d t M (pc, l, .ref a :: r, h) v h2 := by
  refine w_h pc2 hM ?_ rfl hpc k
  simp only [eg_h, eg_gf, hP]
  rw [if_pos (by simpa [or_assoc] using ht), ha]
  dsimp only
  rw [if_pos rfl, hw]
theorem w_put (pc2 : Nat) {ix tg ci kf a : Nat} {z w : Value} {fs r : List Value} (hM : M.1 pc = some (.putfield ix, 3)) (hP : M.2 ix = some (tg, ci, kf, z)) (ht : (tg == 2 || tg == 3 || tg == 4) = true) (ha : h.1 a = some (.inr (ci, fs))) (hl : kf < fs.length) (hf : eg_fit (ty ci kf) w = true) (hK : K0 ≤ a) (hpc : pc + 3 = pc2) (k : eg_W cl ty K0 mt d t M (pc2, l, r, eg_upd h a (.inr (ci, fs.set kf w))) v h2) : eg_W cl ty K0 mt d t M (pc, l, w :: .ref a :: r, h) v h2 := by
  refine w_h pc2 hM ?_ rfl hpc k
  simp only [eg_h, eg_pf, hP]
  rw [if_pos (by simpa [or_assoc] using ht), ha]
  dsimp only
  rw [if_pos ⟨rfl, hl, hf, hK⟩]
theorem w_new (pc2 : Nat) {ix tg ci k0 : Nat} {z : Value} {y : vw_C} (hM : M.1 pc = some (.new ix, 3)) (hP : M.2 ix = some (tg, ci, k0, z)) (ht : (tg == 11 || tg == 14) = true) (hc : cl[ci]? = some y) (hpc : pc + 3 = pc2) (k : eg_W cl ty K0 mt d t M (pc2, l, .ref h.2.1 :: st, eg_mk h (.inr (ci, eg_blank (ty ci) y.2.2)) y.2.2) v h2) : eg_W cl ty K0 mt d t M (pc, l, st, h) v h2 := by
  refine w_h pc2 hM ?_ rfl hpc k
  simp only [eg_h, eg_nw, hP]
  rw [if_pos (by simpa using ht), hc]
theorem w_newa (pc2 : Nat) {a : ArrayType} {n : Int32} {r : List Value} (hM : M.1 pc = some (.newarray a, 2)) (ha : eg_nt a = true) (hn : (!(decide (n < 0)) && decide (n.toNatClampNeg * componentBytes (newarray.typeOf a) ≤ 536870912)) = true) (hpc : pc + 2 = pc2) (k : eg_W cl ty K0 mt d t M (pc2, l, .ref h.2.1 :: r, eg_mk h (.inl (newarray.typeOf a, n.toNatClampNeg, fun _ => defaultValue (newarray.typeOf a))) n.toNatClampNeg) v h2) : eg_W cl ty K0 mt d t M (pc, l, .int n :: r, h) v h2 := by
  refine w_h pc2 hM ?_ rfl hpc k
  simp only [eg_h, eg_na]
  rw [if_pos ha, if_pos (by simpa using hn)]
theorem w_ldc (pc2 : Nat) {ix n k1 k2 : Nat} {w : Value} {i : Instr} (hM : M.1 pc = some (i, n)) (hi : (i = .ldc ix ∧ n = 2) ∨ (i = .ldc_w ix ∧ n = 3)) (hP : M.2 ix = some (0, k1, k2, w)) (hpc : pc + n = pc2) (k : eg_W cl ty K0 mt d t M (pc2, l, w :: st, h) v h2) : eg_W cl ty K0 mt d t M (pc, l, st, h) v h2 := by
  rcases hi with ⟨rfl, rfl⟩ | ⟨rfl, rfl⟩
  · refine w_h pc2 hM ?_ rfl hpc k
    simp only [eg_h, eg_kk, hP]
    rw [if_pos trivial]
  · refine w_h pc2 hM ?_ rfl hpc k
    simp only [eg_h, eg_kk, hP]
    rw [if_pos trivial]
theorem w_obj (pc2 : Nat) {ix k1 k2 a : Nat} {z : Value} {r : List Value} (hM : M.1 pc = some (.invokespecial ix, 3)) (hP : M.2 ix = some (13, k1, k2, z)) (hs : eg_sum r ≤ 8) (hpc : pc + 3 = pc2) (k : eg_W cl ty K0 mt d t M (pc2, l, r, h) v h2) : eg_W cl ty K0 mt d t M (pc, l, .ref a :: r, h) v h2 := by
  refine w_h pc2 hM ?_ rfl hpc k
  simp only [eg_h, eg_oi, hP]
  rw [if_pos trivial]
  exact if_pos hs
theorem w_len (pc2 : Nat) {a n : Nat} {t9 : FieldType} {f : Nat → Value} {r : List Value} (hM : M.1 pc = some (.arraylength, 1)) (ha : h.1 a = some (.inl (t9, n, f))) (hpc : pc + 1 = pc2) (k : eg_W cl ty K0 mt d t M (pc2, l, .int (Int32.ofNat n) :: r, h) v h2) : eg_W cl ty K0 mt d t M (pc, l, .ref a :: r, h) v h2 := by
  refine w_h pc2 hM ?_ rfl hpc k
  simp only [eg_h, eg_len, ha]
theorem w_iald (pc2 : Nat) {a n : Nat} {t9 : FieldType} {f : Nat → Value} {i : Int32} {r : List Value} (hM : M.1 pc = some (.iaload, 1)) (ha : h.1 a = some (.inl (t9, n, f))) (ht : eg_tI t9 = true) (hi : eg_in i n = true) (hpc : pc + 1 = pc2) (k : eg_W cl ty K0 mt d t M (pc2, l, f i.toNatClampNeg :: r, h) v h2) : eg_W cl ty K0 mt d t M (pc, l, .int i :: .ref a :: r, h) v h2 := by
  refine w_h pc2 hM ?_ rfl hpc k
  simp only [eg_h, eg_ald, ha]
  rw [if_pos ⟨ht, hi⟩]
theorem w_lald (pc2 : Nat) {a n : Nat} {t9 : FieldType} {f : Nat → Value} {i : Int32} {r : List Value} (hM : M.1 pc = some (.laload, 1)) (ha : h.1 a = some (.inl (t9, n, f))) (ht : eg_tJ t9 = true) (hi : eg_in i n = true) (hpc : pc + 1 = pc2) (k : eg_W cl ty K0 mt d t M (pc2, l, f i.toNatClampNeg :: r, h) v h2) : eg_W cl ty K0 mt d t M (pc, l, .int i :: .ref a :: r, h) v h2 := by
  refine w_h pc2 hM ?_ rfl hpc k
  simp only [eg_h, eg_ald, ha]
  rw [if_pos ⟨ht, hi⟩]
theorem w_bald (pc2 : Nat) {a n : Nat} {t9 : FieldType} {f : Nat → Value} {i : Int32} {r : List Value} (hM : M.1 pc = some (.baload, 1)) (ha : h.1 a = some (.inl (t9, n, f))) (ht : eg_tB t9 = true) (hi : eg_in i n = true) (hpc : pc + 1 = pc2) (k : eg_W cl ty K0 mt d t M (pc2, l, f i.toNatClampNeg :: r, h) v h2) : eg_W cl ty K0 mt d t M (pc, l, .int i :: .ref a :: r, h) v h2 := by
  refine w_h pc2 hM ?_ rfl hpc k
  simp only [eg_h, eg_ald, ha]
  rw [if_pos ⟨ht, hi⟩]
theorem w_aald (pc2 : Nat) {a n : Nat} {t9 : FieldType} {f : Nat → Value} {i : Int32} {r : List Value} (hM : M.1 pc = some (.aaload, 1)) (ha : h.1 a = some (.inl (t9, n, f))) (ht : eg_tA t9 = true) (hi : eg_in i n = true) (hpc : pc + 1 = pc2) (k : eg_W cl ty K0 mt d t M (pc2, l, f i.toNatClampNeg :: r, h) v h2) : eg_W cl ty K0 mt d t M (pc, l, .int i :: .ref a :: r, h) v h2 := by
  refine w_h pc2 hM ?_ rfl hpc k
  simp only [eg_h, eg_ald, ha]
  rw [if_pos ⟨ht, hi⟩]
theorem w_iast (pc2 : Nat) {a n : Nat} {t9 : FieldType} {f : Nat → Value} {i : Int32} {w : Value} {r : List Value} (hM : M.1 pc = some (.iastore, 1)) (ha : h.1 a = some (.inl (t9, n, f))) (ht : eg_tI t9 = true) (hw : eg_isI w = true) (hi : eg_in i n = true) (hK : K0 ≤ a) (hpc : pc + 1 = pc2) (k : eg_W cl ty K0 mt d t M (pc2, l, r, eg_upd h a (.inl (t9, n, updV f i.toNatClampNeg (narrow t9 w)))) v h2) : eg_W cl ty K0 mt d t M (pc, l, w :: .int i :: .ref a :: r, h) v h2 := by
  refine w_h pc2 hM ?_ rfl hpc k
  simp only [eg_h, eg_ast, ha]
  rw [if_pos ⟨ht, hw, hi, hK⟩]
theorem w_last (pc2 : Nat) {a n : Nat} {t9 : FieldType} {f : Nat → Value} {i : Int32} {w : Value} {r : List Value} (hM : M.1 pc = some (.lastore, 1)) (ha : h.1 a = some (.inl (t9, n, f))) (ht : eg_tJ t9 = true) (hw : eg_isJ w = true) (hi : eg_in i n = true) (hK : K0 ≤ a) (hpc : pc + 1 = pc2) (k : eg_W cl ty K0 mt d t M (pc2, l, r, eg_upd h a (.inl (t9, n, updV f i.toNatClampNeg (narrow t9 w)))) v h2) : eg_W cl ty K0 mt d t M (pc, l, w :: .int i :: .ref a :: r, h) v h2 := by
  refine w_h pc2 hM ?_ rfl hpc k
  simp only [eg_h, eg_ast, ha]
  rw [if_pos ⟨ht, hw, hi, hK⟩]
theorem w_bast (pc2 : Nat) {a n : Nat} {t9 : FieldType} {f : Nat → Value} {i : Int32} {w : Value} {r : List Value} (hM : M.1 pc = some (.bastore, 1)) (ha : h.1 a = some (.inl (t9, n, f))) (ht : eg_tB t9 = true) (hw : eg_isI w = true) (hi : eg_in i n = true) (hK : K0 ≤ a) (hpc : pc + 1 = pc2) (k : eg_W cl ty K0 mt d t M (pc2, l, r, eg_upd h a (.inl (t9, n, updV f i.toNatClampNeg (narrow t9 w)))) v h2) : eg_W cl ty K0 mt d t M (pc, l, w :: .int i :: .ref a :: r, h) v h2 := by
  refine w_h pc2 hM ?_ rfl hpc k
  simp only [eg_h, eg_ast, ha]
  rw [if_pos ⟨ht, hw, hi, hK⟩]
/-- a call whose answer is known -/
theorem w_call (pc2 : Nat) {i : Instr} {j : Nat} {as r : List Value} {v1 : Option Value} {h1 : eg_H} (hM : M.1 pc = some (i, 3)) (hq : eg_cq M.2 i st h = some (j, as, r)) (hv : eg_V cl ty K0 mt d j as h v1 h1) (hpc : pc + 3 = pc2) (k : eg_W cl ty K0 mt d t M (pc2, l, v1.toList ++ r, h1) v h2) : eg_W cl ty K0 mt d t M (pc, l, st, h) v h2 := by
  subst hpc
  have e : eg_p i st = none ∧ eg_v i l st = none ∧ eg_b K0 pc i st = none ∧ eg_nr i = true := by
    cases i <;> first | exact ⟨rfl, rfl, rfl, rfl⟩ | (exact eg_no hq)
  refine eg_W.call (x := (pc, l, st, h)) ?_ hv k
  unfold eg_cx
  dsimp only
  rw [eg_nr_ret hM e.2.2.2, hM]
  dsimp only
  rw [e.1]
  dsimp only
  rw [e.2.1]
  dsimp only
  rw [e.2.2.1]
  dsimp only
  rw [eg_cq_h hq]
  dsimp only
  rw [if_pos rfl]
  exact hq
/-- from here on the run returns, and what K says holds then -/
def eg_K (cl : List vw_C) (ty : Nat → Nat → FieldType) (K0 : Nat) (mt : Nat → Option eg_D) (d : Nat) (t : Option FieldType) (M : eg_M) (x : eg_S) (K : Option Value → eg_H → Prop) : Prop := ∃ v h2, eg_W cl ty K0 mt d t M x v h2 ∧ K v h2
/-- a method answers, and what K says holds then -/
def eg_Y (cl : List vw_C) (ty : Nat → Nat → FieldType) (K0 : Nat) (mt : Nat → Option eg_D) (d j : Nat) (as : List Value) (h : eg_H) (K : Option Value → eg_H → Prop) : Prop := ∃ v h2, eg_V cl ty K0 mt d j as h v h2 ∧ K v h2
variable {K : Option Value → eg_H → Prop}
theorem eg_K.lift {x y : eg_S} (f : ∀ v h2, eg_W cl ty K0 mt d t M y v h2 → eg_W cl ty K0 mt d t M x v h2) (k : eg_K cl ty K0 mt d t M y K) : eg_K cl ty K0 mt d t M x K := by
  obtain ⟨v, h2, w, q⟩ := k
  exact ⟨v, h2, f v h2 w, q⟩
theorem g_ret {x : eg_S} {v : Option Value} (hr : eg_ret t M x = some v) (k : K v x.2.2.2) : eg_K cl ty K0 mt d t M x K := ⟨v, _, eg_W.ret hr rfl, k⟩
theorem eg_K.imp {x : eg_S} {K2 : Option Value → eg_H → Prop} (k : eg_K cl ty K0 mt d t M x K) (f : ∀ v h2, K v h2 → K2 v h2) : eg_K cl ty K0 mt d t M x K2 := by
  obtain ⟨v, h2, w, q⟩ := k
  exact ⟨v, h2, w, f v h2 q⟩
theorem eg_Y.imp {j : Nat} {as : List Value} {K2 : Option Value → eg_H → Prop} (k : eg_Y cl ty K0 mt d j as h K) (f : ∀ v h2, K v h2 → K2 v h2) : eg_Y cl ty K0 mt d j as h K2 := by
  obtain ⟨v, h2, w, q⟩ := k
  exact ⟨v, h2, w, f v h2 q⟩
theorem eg_Y.of {j : Nat} {as : List Value} {w : eg_D} {la : eg_L} (hj : mt j = some w) (hl : eg_in0 as w.2.2.1 = some la) (k : eg_K cl ty K0 mt d w.2.2.2.1 w.2.2.2.2 (0, la, [], h) K) : eg_Y cl ty K0 mt (d + 1) j as h K := by
  obtain ⟨v, h2, q, r⟩ := k
  exact ⟨v, h2, eg_V.of hj hl q, r⟩
theorem eg_Y.mono {j e : Nat} {as : List Value} (hde : d ≤ e) (k : eg_Y cl ty K0 mt d j as h K) : eg_Y cl ty K0 mt e j as h K := by
  obtain ⟨v, h2, q, r⟩ := k
  exact ⟨v, h2, q.mono hde, r⟩
theorem eg_Y.frame {j : Nat} {as : List Value} (k : eg_Y cl ty K0 mt d j as h K) (g : Nat → Option eg_C) : eg_Y cl ty K0 mt d j as (eg_ov h g) (fun v h3 => ∃ h2, h3 = eg_ov h2 g ∧ K v h2) := by
  obtain ⟨v, h2, q, r⟩ := k
  exact ⟨v, _, q.frame g, h2, rfl, r⟩
theorem g_call (pc2 : Nat) {i : Instr} {j : Nat} {as r : List Value} (hM : M.1 pc = some (i, 3)) (hq : eg_cq M.2 i st h = some (j, as, r)) (hpc : pc + 3 = pc2) (hv : eg_Y cl ty K0 mt d j as h (fun v1 h1 => eg_K cl ty K0 mt d t M (pc2, l, v1.toList ++ r, h1) K)) : eg_K cl ty K0 mt d t M (pc, l, st, h) K := by
  obtain ⟨v1, h1, q, v, h2, w, z⟩ := hv
  exact ⟨v, h2, w_call pc2 hM hq q hpc w, z⟩

theorem g_p (pc2 : Nat) {i : Instr} {n : Nat} {st2 : List Value} (hM : M.1 pc = some (i, n)) (hp : eg_p i st = some st2) (hn : n = eg_pl i) (hpc : pc + n = pc2) (k : eg_K cl ty K0 mt d t M (pc2, l, st2, h) K) : eg_K cl ty K0 mt d t M (pc, l, st, h) K := eg_K.lift (fun v h2 w => w_p pc2 hM hp hn hpc w) k
theorem g_v (pc2 : Nat) (l2 : eg_L) {i : Instr} {n : Nat} {st2 : List Value} (hM : M.1 pc = some (i, n)) (hv : eg_v i l st = some (l2, st2)) (hn : n = eg_vl i) (hpc : pc + n = pc2) (k : eg_K cl ty K0 mt d t M (pc2, l2, st2, h) K) : eg_K cl ty K0 mt d t M (pc, l, st, h) K := eg_K.lift (fun v h2 w => w_v pc2 l2 hM hv hn hpc w) k
theorem g_b (pc2 : Nat) {i : Instr} {n : Nat} {st2 : List Value} (hM : M.1 pc = some (i, n)) (hb : eg_b K0 pc i st = some (pc2, st2)) (hn : eg_bl i n = true) (k : eg_K cl ty K0 mt d t M (pc2, l, st2, h) K) : eg_K cl ty K0 mt d t M (pc, l, st, h) K := eg_K.lift (fun v h2 w => w_b pc2 hM hb hn w) k
theorem g_icmp (tgt pc2 : Nat) {q : ClassFile.Cond} {off : Int} {x y : Int32} {r : List Value} (hM : M.1 pc = some (.if_icmp q off, 3)) (ht : (pc : Int) + off = (tgt : Int)) (hpc : pc + 3 = pc2) (kt : eg_cnd q x y = true → eg_K cl ty K0 mt d t M (tgt, l, r, h) K) (kf : eg_cnd q x y = false → eg_K cl ty K0 mt d t M (pc2, l, r, h) K) : eg_K cl ty K0 mt d t M (pc, l, .int y :: .int x :: r, h) K := by
  cases hc : eg_cnd q x y with
  | true =>
    obtain ⟨v, h2, w, z⟩ := kt hc
    exact ⟨v, h2, w_icmp tgt pc2 hM ht hpc (fun _ => w) (fun e => by rw [hc] at e; cases e), z⟩
  | false =>
    obtain ⟨v, h2, w, z⟩ := kf hc
    exact ⟨v, h2, w_icmp tgt pc2 hM ht hpc (fun e => by rw [hc] at e; cases e) (fun _ => w), z⟩
theorem g_if (tgt pc2 : Nat) {q : ClassFile.Cond} {off : Int} {x : Int32} {r : List Value} (hM : M.1 pc = some (.ifCond q off, 3)) (ht : (pc : Int) + off = (tgt : Int)) (hpc : pc + 3 = pc2) (kt : eg_cnd q x 0 = true → eg_K cl ty K0 mt d t M (tgt, l, r, h) K) (kf : eg_cnd q x 0 = false → eg_K cl ty K0 mt d t M (pc2, l, r, h) K) : eg_K cl ty K0 mt d t M (pc, l, .int x :: r, h) K := by
  cases hc : eg_cnd q x 0 with
  | true =>
    obtain ⟨v, h2, w, z⟩ := kt hc
    exact ⟨v, h2, w_if tgt pc2 hM ht hpc (fun _ => w) (fun e => by rw [hc] at e; cases e), z⟩
  | false =>
    obtain ⟨v, h2, w, z⟩ := kf hc
    exact ⟨v, h2, w_if tgt pc2 hM ht hpc (fun e => by rw [hc] at e; cases e) (fun _ => w), z⟩
theorem g_h (pc2 : Nat) {i : Instr} {n : Nat} {st2 : List Value} {hh : eg_H} (hM : M.1 pc = some (i, n)) (hs : eg_h cl ty K0 M.2 i st h = some (st2, hh)) (hn : n = eg_hl i) (hpc : pc + n = pc2) (k : eg_K cl ty K0 mt d t M (pc2, l, st2, hh) K) : eg_K cl ty K0 mt d t M (pc, l, st, h) K := eg_K.lift (fun v h2 w => w_h pc2 hM hs hn hpc w) k
theorem g_get (pc2 : Nat) {ix tg ci kf a : Nat} {z w : Value} {fs r : List Value} (hM : M.1 pc = some (.getfield ix, 3)) (hP : M.2 ix = some (tg, ci, kf, z)) (ht : (tg == 2 || tg == 3 || tg == 4 || tg == 15 || tg == 16) = true) (ha : h.1 a = some (.inr (ci, fs))) (hw : fs[kf]? = some w) (hpc : pc + 3 = pc2) (k : eg_K cl ty K0 mt d t M (pc2, l, w :: r, h) K) : eg_K cl ty K0 mt d t M (pc, l, .ref a :: r, h) K := eg_K.lift (fun v h2 w => w_get pc2 hM hP ht ha hw hpc w) k
theorem g_put (pc2 : Nat) {ix tg ci kf a : Nat} {z w : Value} {fs r : List Value} (hM : M.1 pc = some (.putfield ix, 3)) (hP : M.2 ix = some (tg, ci, kf, z)) (ht : (tg == 2 || tg == 3 || tg == 4) = true) (ha : h.1 a = some (.inr (ci, fs))) (hl : kf < fs.length) (hf : eg_fit (ty ci kf) w = true) (hK : K0 ≤ a) (hpc : pc + 3 = pc2) (k : eg_K cl ty K0 mt d t M (pc2, l, r, eg_upd h a (.inr (ci, fs.set kf w))) K) : eg_K cl ty K0 mt d t M (pc, l, w :: .ref a :: r, h) K := eg_K.lift (fun v h2 w => w_put pc2 hM hP ht ha hl hf hK hpc w) k
theorem g_new (pc2 : Nat) {ix tg ci k0 : Nat} {z : Value} {y : vw_C} (hM : M.1 pc = some (.new ix, 3)) (hP : M.2 ix = some (tg, ci, k0, z)) (ht : (tg == 11 || tg == 14) = true) (hc : cl[ci]? = some y) (hpc : pc + 3 = pc2) (k : eg_K cl ty K0 mt d t M (pc2, l, .ref h.2.1 :: st, eg_mk h (.inr (ci, eg_blank (ty ci) y.2.2)) y.2.2) K) : eg_K cl ty K0 mt d t M (pc, l, st, h) K := eg_K.lift (fun v h2 w => w_new pc2 hM hP ht hc hpc w) k
theorem g_newa (pc2 : Nat) {a : ArrayType} {n : Int32} {r : List Value} (hM : M.1 pc = some (.newarray a, 2)) (ha : eg_nt a = true) (hn : (!(decide (n < 0)) && decide (n.toNatClampNeg * componentBytes (newarray.typeOf a) ≤ 536870912)) = true) (hpc : pc + 2 = pc2) (k : eg_K cl ty K0 mt d t M (pc2, l, .ref h.2.1 :: r, eg_mk h (.inl (newarray.typeOf a, n.toNatClampNeg, fun _ => defaultValue (newarray.typeOf a))) n.toNatClampNeg) K) : eg_K cl ty K0 mt d t M (pc, l, .int n :: r, h) K := eg_K.lift (fun v h2 w => w_newa pc2 hM ha hn hpc w) k
theorem g_ldc (pc2 : Nat) {ix n k1 k2 : Nat} {w : Value} {i : Instr} (hM : M.1 pc = some (i, n)) (hi : (i = .ldc ix ∧ n = 2) ∨ (i = .ldc_w ix ∧ n = 3)) (hP : M.2 ix = some (0, k1, k2, w)) (hpc : pc + n = pc2) (k : eg_K cl ty K0 mt d t M (pc2, l, w :: st, h) K) : eg_K cl ty K0 mt d t M (pc, l, st, h) K := eg_K.lift (fun v h2 w => w_ldc pc2 hM hi hP hpc w) k
theorem g_obj (pc2 : Nat) {ix k1 k2 a : Nat} {z : Value} {r : List Value} (hM : M.1 pc = some (.invokespecial ix, 3)) (hP : M.2 ix = some (13, k1, k2, z)) (hs : eg_sum r ≤ 8) (hpc : pc + 3 = pc2) (k : eg_K cl ty K0 mt d t M (pc2, l, r, h) K) : eg_K cl ty K0 mt d t M (pc, l, .ref a :: r, h) K := eg_K.lift (fun v h2 w => w_obj pc2 hM hP hs hpc w) k
theorem g_len (pc2 : Nat) {a n : Nat} {t9 : FieldType} {f : Nat → Value} {r : List Value} (hM : M.1 pc = some (.arraylength, 1)) (ha : h.1 a = some (.inl (t9, n, f))) (hpc : pc + 1 = pc2) (k : eg_K cl ty K0 mt d t M (pc2, l, .int (Int32.ofNat n) :: r, h) K) : eg_K cl ty K0 mt d t M (pc, l, .ref a :: r, h) K := eg_K.lift (fun v h2 w => w_len pc2 hM ha hpc w) k
theorem g_iald (pc2 : Nat) {a n : Nat} {t9 : FieldType} {f : Nat → Value} {i : Int32} {r : List Value} (hM : M.1 pc = some (.iaload, 1)) (ha : h.1 a = some (.inl (t9, n, f))) (ht : eg_tI t9 = true) (hi : eg_in i n = true) (hpc : pc + 1 = pc2) (k : eg_K cl ty K0 mt d t M (pc2, l, f i.toNatClampNeg :: r, h) K) : eg_K cl ty K0 mt d t M (pc, l, .int i :: .ref a :: r, h) K := eg_K.lift (fun v h2 w => w_iald pc2 hM ha ht hi hpc w) k
theorem g_lald (pc2 : Nat) {a n : Nat} {t9 : FieldType} {f : Nat → Value} {i : Int32} {r : List Value} (hM : M.1 pc = some (.laload, 1)) (ha : h.1 a = some (.inl (t9, n, f))) (ht : eg_tJ t9 = true) (hi : eg_in i n = true) (hpc : pc + 1 = pc2) (k : eg_K cl ty K0 mt d t M (pc2, l, f i.toNatClampNeg :: r, h) K) : eg_K cl ty K0 mt d t M (pc, l, .int i :: .ref a :: r, h) K := eg_K.lift (fun v h2 w => w_lald pc2 hM ha ht hi hpc w) k
theorem g_bald (pc2 : Nat) {a n : Nat} {t9 : FieldType} {f : Nat → Value} {i : Int32} {r : List Value} (hM : M.1 pc = some (.baload, 1)) (ha : h.1 a = some (.inl (t9, n, f))) (ht : eg_tB t9 = true) (hi : eg_in i n = true) (hpc : pc + 1 = pc2) (k : eg_K cl ty K0 mt d t M (pc2, l, f i.toNatClampNeg :: r, h) K) : eg_K cl ty K0 mt d t M (pc, l, .int i :: .ref a :: r, h) K := eg_K.lift (fun v h2 w => w_bald pc2 hM ha ht hi hpc w) k
theorem g_aald (pc2 : Nat) {a n : Nat} {t9 : FieldType} {f : Nat → Value} {i : Int32} {r : List Value} (hM : M.1 pc = some (.aaload, 1)) (ha : h.1 a = some (.inl (t9, n, f))) (ht : eg_tA t9 = true) (hi : eg_in i n = true) (hpc : pc + 1 = pc2) (k : eg_K cl ty K0 mt d t M (pc2, l, f i.toNatClampNeg :: r, h) K) : eg_K cl ty K0 mt d t M (pc, l, .int i :: .ref a :: r, h) K := eg_K.lift (fun v h2 w => w_aald pc2 hM ha ht hi hpc w) k
theorem g_iast (pc2 : Nat) {a n : Nat} {t9 : FieldType} {f : Nat → Value} {i : Int32} {w : Value} {r : List Value} (hM : M.1 pc = some (.iastore, 1)) (ha : h.1 a = some (.inl (t9, n, f))) (ht : eg_tI t9 = true) (hw : eg_isI w = true) (hi : eg_in i n = true) (hK : K0 ≤ a) (hpc : pc + 1 = pc2) (k : eg_K cl ty K0 mt d t M (pc2, l, r, eg_upd h a (.inl (t9, n, updV f i.toNatClampNeg (narrow t9 w)))) K) : eg_K cl ty K0 mt d t M (pc, l, w :: .int i :: .ref a :: r, h) K := eg_K.lift (fun v h2 w => w_iast pc2 hM ha ht hw hi hK hpc w) k
theorem g_last (pc2 : Nat) {a n : Nat} {t9 : FieldType} {f : Nat → Value} {i : Int32} {w : Value} {r : List Value} (hM : M.1 pc = some (.lastore, 1)) (ha : h.1 a = some (.inl (t9, n, f))) (ht : eg_tJ t9 = true) (hw : eg_isJ w = true) (hi : eg_in i n = true) (hK : K0 ≤ a) (hpc : pc + 1 = pc2) (k : eg_K cl ty K0 mt d t M (pc2, l, r, eg_upd h a (.inl (t9, n, updV f i.toNatClampNeg (narrow t9 w)))) K) : eg_K cl ty K0 mt d t M (pc, l, w :: .int i :: .ref a :: r, h) K := eg_K.lift (fun v h2 w => w_last pc2 hM ha ht hw hi hK hpc w) k
theorem g_bast (pc2 : Nat) {a n : Nat} {t9 : FieldType} {f : Nat → Value} {i : Int32} {w : Value} {r : List Value} (hM : M.1 pc = some (.bastore, 1)) (ha : h.1 a = some (.inl (t9, n, f))) (ht : eg_tB t9 = true) (hw : eg_isI w = true) (hi : eg_in i n = true) (hK : K0 ≤ a) (hpc : pc + 1 = pc2) (k : eg_K cl ty K0 mt d t M (pc2, l, r, eg_upd h a (.inl (t9, n, updV f i.toNatClampNeg (narrow t9 w)))) K) : eg_K cl ty K0 mt d t M (pc, l, w :: .int i :: .ref a :: r, h) K := eg_K.lift (fun v h2 w => w_bast pc2 hM ha ht hw hi hK hpc w) k
theorem eg_upd_self {h : eg_H} {a : Nat} {c : eg_C} (e : h.1 a = some c) : eg_upd h a c = h := by
  unfold eg_upd
  refine Prod.ext ?_ rfl
  funext k
  dsimp only
  by_cases q : k = a
  · rw [if_pos q, q, e]
  · rw [if_neg q]
theorem eg_upd_at (h : eg_H) (a : Nat) (c : eg_C) : (eg_upd h a c).1 a = some c := by simp [eg_upd]
theorem eg_upd_ne {h : eg_H} {a b : Nat} {c : eg_C} (q : b ≠ a) : (eg_upd h a c).1 b = h.1 b := by simp [eg_upd, q]
theorem eg_upd2 (h : eg_H) (a : Nat) (c e : eg_C) : eg_upd (eg_upd h a c) a e = eg_upd h a e := by
  unfold eg_upd
  refine Prod.ext ?_ rfl
  funext k
  dsimp only
  by_cases q : k = a
  · rw [if_pos q, if_pos q]
  · rw [if_neg q, if_neg q, if_neg q]
theorem eg_in_nI {i n : Nat} (h : i < n) (hn : n < 2 ^ 31) : eg_in (nI i) n = true := by
  have h1 : ¬ nI i < 0 := nI_pos (by omega)
  have h2 : (nI i).toNatClampNeg = i := nI_clamp (by omega)
  simp [eg_in, h1, h2, h]
end EGWALK
