/-! THE FLAT MACHINE, part 5: new things, switches -/
/-- where loops begin again -/
def fW (d : Nat) (D : eg_D) (K : Option TV → FH → Prop) : Nat → FC := fun pc l st h => fm_X d D pc l st h K
def o_obj (c : FC) : FC := fun l st h => match st with
  | .inr (.inl _) :: r => bif Nat.ble (sumc r) 8 then c l r h else False
  | _ => False
/-- cells with one more -/
def shN (sh : Nat → Option Shp) (n : Nat) (s : Shp) : Nat → Option Shp := fun k => if k = n then some s else sh k
def o_new (ci nf : Nat) (z : Int → Int) (c : FC) : FC := fun l st h => match h with
  | (sh, M, nx, sl) => fxN ≤ nx ∧ c l (gr nx :: st) (shN sh nx (.inr (ci, List.replicate nf none)), um M nx z, nx + 1, sl + nf)
def o_newa (t : ArrayType) (c : FC) : FC := fun l st h => match h with
  | (sh, M, nx, sl) => match st with
    | .inl (.inl n) :: r => (fxN ≤ nx ∧ 0 ≤ n ∧ n ≤ 67108864) ∧ c l (gr nx :: r) (shN sh nx (.inl (newarray.typeOf t, n.toNat)), um M nx (fun _ => 0), nx + 1, sl + n.toNat)
    | _ => False
def zr1 : Int → Int := fun k => if k = 0 then -1 else 0
def zr3 : Int → Int := fun k => if k = 3 ∨ k = 13 then -1 else 0
theorem fsh_hi {n : Nat} (h : fxN ≤ n) : fsh n = none := by
  unfold fsh
  have e : Nat.blt n fxN = false := by
    cases hb : Nat.blt n fxN with
    | false => rfl
    | true => exact absurd (Nat.le_of_ble_eq_true hb) (by omega)
  rw [e]
  rfl
theorem shp_N {sh : Nat → Option Shp} {n : Nat} {s : Shp} (h : fxN ≤ n) : shp (shN sh n s) n = some s := by
  unfold shp
  rw [fsh_hi h]
  exact if_pos rfl
theorem shp_O {sh : Nat → Option Shp} {n k : Nat} {s : Shp} (h : k ≠ n) : shp (shN sh n s) k = shp sh k := by
  unfold shp
  split
  · rfl
  · exact if_neg h
theorem E_mk {h : FH} {s : Shp} {f : Int → Int} {m : Nat} (hn : fxN ≤ h.2.2.1) : eg_mk (fm_E h) (cellE s f) m = fm_E (shN h.1 h.2.2.1 s, um h.2.1 h.2.2.1 f, h.2.2.1 + 1, h.2.2.2 + m) := by
  refine Prod.ext ?_ rfl
  funext c
  show (if c = h.2.2.1 then some (cellE s f) else (shp h.1 c).map fun s => cellE s (h.2.1 c)) = (shp (shN h.1 h.2.2.1 s) c).map fun s => cellE s (um h.2.1 h.2.2.1 f c)
  by_cases e : c = h.2.2.1
  · rw [if_pos e, e, shp_N hn, um_at]
    rfl
  · rw [if_neg e, shp_O e, um_ne e]
section NSND
variable {d : Nat} {D : eg_D} {K : Option TV → FH → Prop} {pc : Nat} {c c2 : FC} {l : FL} {st st2 : List TV} {h h2 : FH}
theorem o_obj_ok (pc2 : Nat) {ix k1 k2 : Nat} {z : Value} (hM : D.2.2.2.2.1 pc = some (.invokespecial ix, 3)) (hP : D.2.2.2.2.2 ix = some (13, k1, k2, z)) (hp : pc + 3 = pc2) (hc : fm_S d D K pc2 c) : fm_S d D K pc (o_obj c) := by
  intro l st h q
  unfold o_obj at q
  split at q
  · next a r =>
    cases hb : Nat.ble (sumc r) 8 with
    | false => rw [hb] at q; exact q.elim
    | true =>
      rw [hb] at q
      have e := g_obj (cl := cl) (ty := kY) (K0 := 3) (mt := mt) (d := d) (t := D.2.2.2.1) (M := D.2.2.2.2) (l := lE l) (h := fm_E h) (K := KE K) (a := nm a) (r := r.map tvE) pc2 hM hP (by rw [sumc_ok]; exact Nat.le_of_ble_eq_true hb) hp (hc _ _ _ q)
      show eg_K cl kY 3 mt d D.2.2.2.1 D.2.2.2.2 (pc, lE l, tvE (.inr (.inl a)) :: r.map tvE, fm_E h) (KE K)
      rw [tvE_nm]
      exact e
  · exact q.elim
theorem o_new_ok (pc2 : Nat) {ix tg ci k0 nf : Nat} {zz : Value} {y : vw_C} {z : Int → Int} (hM : D.2.2.2.2.1 pc = some (.new ix, 3)) (hP : D.2.2.2.2.2 ix = some (tg, ci, k0, zz)) (ht : tg = 11 ∨ tg = 14) (hy : cl[ci]? = some y) (hn : y.2.2 = nf) (hz : fvs (kY ci) (List.replicate nf none) 0 z = eg_blank (kY ci) nf) (hp : pc + 3 = pc2) (hc : fm_S d D K pc2 c) : fm_S d D K pc (o_new ci nf z c) := by
  intro l st h q
  obtain ⟨sh, M, nx, sl⟩ := h
  obtain ⟨h1, q⟩ := q
  subst hn
  refine s_h pc2 hM rfl hp ?_ (hc _ _ _ q)
  rw [← E_mk (h := (sh, M, nx, sl)) (s := .inr (ci, List.replicate y.2.2 none)) (f := z) h1]
  simp only [eg_h, eg_nw, hP]
  rw [if_pos ht, hy]
  simp only [cellE]
  rw [hz]
  rfl
theorem o_newa_ok (pc2 : Nat) {t : ArrayType} (hM : D.2.2.2.2.1 pc = some (.newarray t, 2)) (ht : (match t with | .int => true | .byte => true | _ => false) = true) (hp : pc + 2 = pc2) (hc : fm_S d D K pc2 c) : fm_S d D K pc (o_newa t c) := by
  intro l st h q
  obtain ⟨sh, M, nx, sl⟩ := h
  unfold o_newa at q
  dsimp only at q
  split at q
  · next n r =>
    obtain ⟨⟨h1, h2, h3⟩, q⟩ := q
    refine s_h pc2 hM rfl hp ?_ (hc _ _ _ q)
    rw [← E_mk (h := (sh, M, nx, sl)) (s := .inl (newarray.typeOf t, n.toNat)) (f := fun _ => 0) h1]
    show eg_h cl kY 3 D.2.2.2.2.2 (.newarray t) (.int (Int32.ofInt n) :: r.map tvE) (fm_E (sh, M, nx, sl)) = _
    simp only [eg_h]
    have e1 : eg_nt t = true := by cases t <;> first | rfl | cases ht
    have e2 : ∀ m : Nat, m ≤ 67108864 → m * componentBytes (newarray.typeOf t) ≤ 536870912 := by
      intro m hm
      cases t <;> first | (simp only [newarray.typeOf, componentBytes]; omega) | (cases ht)
    have e3 : (fun _ : Nat => defaultValue (newarray.typeOf t)) = fun i : Nat => dv (newarray.typeOf t) ((fun _ => 0) (i : Int)) := by
      funext i
      cases t <;> first | rfl | cases ht
    rw [if_pos e1]
    simp only [eg_na]
    rw [if_pos ⟨by rw [i32_neg (by omega) (by omega)]; omega, by rw [i32_clamp h2 (by omega)]; exact e2 _ (by omega)⟩, i32_clamp h2 (by omega), e3]
    rfl
  · exact q.elim
end NSND
theorem g_v6 {cl : List vw_C} {ty : Nat → Nat → FieldType} {K0 : Nat} {mt : Nat → Option eg_D} {d : Nat} {t : Option FieldType} {M : eg_M} {pc : Nat} {l : eg_L} {st : List Value} {h : eg_H} {K : Option Value → eg_H → Prop} (pc2 : Nat) (l2 : eg_L) {i : Instr} {st2 : List Value} (hM : M.1 pc = some (i, 6)) (hv : eg_v i l st = some (l2, st2)) (hi : eg_isinc i = true) (hpc : pc + 6 = pc2) (k : eg_K cl ty K0 mt d t M (pc2, l2, st2, h) K) : eg_K cl ty K0 mt d t M (pc, l, st, h) K := eg_K.lift (fun v h2 w => by
  subst hpc
  obtain ⟨e1, e2⟩ := eg_v_p hv
  refine w_step hM e2 ?_ w
  simp only [eg_step, hM, e1, hv]
  rw [if_pos (Or.inr ⟨trivial, hi⟩)]) k
theorem o_inc6_ok {d : Nat} {D : eg_D} {K : Option TV → FH → Prop} {pc : Nat} {c : FC} (pc2 : Nat) {j : Nat} {n : Int} (hM : D.2.2.2.2.1 pc = some (.iinc j n, 6)) (hp : pc + 6 = pc2) (hc : fm_S d D K pc2 c) : fm_S d D K pc (o_inc j n c) := by
  intro l st h q
  unfold o_inc at q
  split at q
  · next x hg =>
    obtain ⟨l2, q2, e⟩ := slk_ok l j (ti (x + n)) _ rfl q
    refine g_v6 pc2 (lE l2) hM ?_ rfl hp (hc _ _ _ q2)
    show eg_inc (lE l) j n (st.map tvE) = _
    unfold eg_inc
    rw [gl_ok l j _ hg]
    dsimp only [tvE]
    rw [← Int32.ofInt_add]
    have e2 : eg_put (lE l) j (.int (Int32.ofInt (x + n))) = some (lE l2) := e
    rw [e2]
  · exact q.elim
theorem swj {pc t : Nat} {o : Int} {r : List Value} (h : (pc : Int) + o = (t : Int)) : eg_j pc o r = some (t, r) := by
  unfold eg_j
  rw [if_pos (by omega), h]
  rfl
theorem sw211_29 {c0 c1 c2 c3 c4 c5 c6 c7 c8 c9 c10 c11 : FC} (x : Int) (r : List Value) (h1 : -2147483648 ≤ x) (h2 : x ≤ 2147483647) : eg_b 3 29 (.tableswitch 270 0 11 #[63, 67, 77, 101, 126, 139, 175, 184, 213, 230, 241, 260]) (.int (Int32.ofInt x) :: r) = some (swt x 299 [(0, 92, c0), (1, 96, c1), (2, 106, c2), (3, 130, c3), (4, 155, c4), (5, 168, c5), (6, 204, c6), (7, 213, c7), (8, 242, c8), (9, 259, c9), (10, 270, c10), (11, 289, c11)], r) := by
  simp only [eg_b]
  rw [i32_of h1 h2]
  by_cases hx : x < 0 ∨ 11 < x
  · rw [if_pos hx, swj (t := 299) rfl]
    congr 2
    simp only [swt]
    repeat rw [if_neg (by omega)]
  · rw [if_neg hx]
    have hv : x = 0 ∨ x = 1 ∨ x = 2 ∨ x = 3 ∨ x = 4 ∨ x = 5 ∨ x = 6 ∨ x = 7 ∨ x = 8 ∨ x = 9 ∨ x = 10 ∨ x = 11 := by omega
    rcases hv with rfl | rfl | rfl | rfl | rfl | rfl | rfl | rfl | rfl | rfl | rfl | rfl
    · rfl
    · rfl
    · rfl
    · rfl
    · rfl
    · rfl
    · rfl
    · rfl
    · rfl
    · rfl
    · rfl
    · rfl
theorem sw343_88 {c1 c2 c3 c8 c9 c10 : FC} (x : Int) (r : List Value) (h1 : -2147483648 ≤ x) (h2 : x ≤ 2147483647) : eg_b 3 88 (.tableswitch 228 1 10 #[56, 98, 211, 228, 228, 228, 228, 92, 148, 211]) (.int (Int32.ofInt x) :: r) = some (swt x 316 [(1, 144, c1), (2, 186, c2), (3, 299, c3), (8, 180, c8), (9, 236, c9), (10, 299, c10)], r) := by
  simp only [eg_b]
  rw [i32_of h1 h2]
  by_cases hx : x < 1 ∨ 10 < x
  · rw [if_pos hx, swj (t := 316) rfl]
    congr 2
    simp only [swt]
    repeat rw [if_neg (by omega)]
  · rw [if_neg hx]
    have hv : x = 1 ∨ x = 2 ∨ x = 3 ∨ x = 4 ∨ x = 5 ∨ x = 6 ∨ x = 7 ∨ x = 8 ∨ x = 9 ∨ x = 10 := by omega
    rcases hv with rfl | rfl | rfl | rfl | rfl | rfl | rfl | rfl | rfl | rfl
    · rfl
    · rfl
    · rfl
    · rfl
    · rfl
    · rfl
    · rfl
    · rfl
    · rfl
    · rfl
theorem sw391_59 {c0 c1 c2 c3 c4 c5 c6 c7 c8 c9 c10 : FC} (x : Int) (r : List Value) (h1 : -2147483648 ≤ x) (h2 : x ≤ 2147483647) : eg_b 3 59 (.tableswitch 199 0 10 #[57, 61, 70, 78, 87, 97, 129, 135, 161, 178, 184]) (.int (Int32.ofInt x) :: r) = some (swt x 258 [(0, 116, c0), (1, 120, c1), (2, 129, c2), (3, 137, c3), (4, 146, c4), (5, 156, c5), (6, 188, c6), (7, 194, c7), (8, 220, c8), (9, 237, c9), (10, 243, c10)], r) := by
  simp only [eg_b]
  rw [i32_of h1 h2]
  by_cases hx : x < 0 ∨ 10 < x
  · rw [if_pos hx, swj (t := 258) rfl]
    congr 2
    simp only [swt]
    repeat rw [if_neg (by omega)]
  · rw [if_neg hx]
    have hv : x = 0 ∨ x = 1 ∨ x = 2 ∨ x = 3 ∨ x = 4 ∨ x = 5 ∨ x = 6 ∨ x = 7 ∨ x = 8 ∨ x = 9 ∨ x = 10 := by omega
    rcases hv with rfl | rfl | rfl | rfl | rfl | rfl | rfl | rfl | rfl | rfl | rfl
    · rfl
    · rfl
    · rfl
    · rfl
    · rfl
    · rfl
    · rfl
    · rfl
    · rfl
    · rfl
    · rfl
theorem sw367_18 {c1 c2 c9 : FC} (x : Int) (r : List Value) (h1 : -2147483648 ≤ x) (h2 : x ≤ 2147483647) : eg_b 3 18 (.lookupswitch 55 #[(1, 34), (2, 43), (9, 45)]) (.int (Int32.ofInt x) :: r) = some (swt x 73 [(1, 52, c1), (2, 61, c2), (9, 63, c9)], r) := by
  simp only [eg_b]
  rw [if_pos (by decide), i32_of h1 h2]
  show eg_j 18 (Op.lookupswitch.offset [(1, 34), (2, 43), (9, 45)] 55 x) r = _
  simp only [Op.lookupswitch.offset, swt]
  by_cases e1 : x = 1
  · subst e1
    rfl
  · rw [if_neg (fun q => e1 q.symm), if_neg e1]
    by_cases e2 : x = 2
    · subst e2
      rfl
    · rw [if_neg (fun q => e2 q.symm), if_neg e2]
      by_cases e3 : x = 9
      · subst e3
        rfl
      · rw [if_neg (fun q => e3 q.symm), if_neg e3]
        rfl
