/-! THE FLAT MACHINE, part 4: what instructions on cells, calls and returns ask is enough -/
theorem shp_fx {sh : Nat → Option Shp} {a : Nat} {s : Shp} (h : fsh a = some s) : shp sh a = some s := by
  unfold shp
  rw [h]
theorem E_at {h : FH} {a : Nat} {s : Shp} (hs : shp h.1 a = some s) : (fm_E h).1 a = some (cellE s (h.2.1 a)) := by
  show (shp h.1 a).map _ = _
  rw [hs]
  rfl
theorem E_um {h : FH} {a : Nat} {s : Shp} (hs : shp h.1 a = some s) (f : Int → Int) : eg_upd (fm_E h) a (cellE s f) = fm_E (h.1, um h.2.1 a f, h.2.2) := by
  refine Prod.ext ?_ rfl
  funext c
  show (if c = a then some (cellE s f) else (shp h.1 c).map fun s => cellE s (h.2.1 c)) = (shp h.1 c).map fun s => cellE s (um h.2.1 a f c)
  by_cases e : c = a
  · subst e
    rw [if_pos rfl, hs, um_at]
    rfl
  · rw [if_neg e, um_ne e]
def fvE (ty : FieldType) (s : Option (Option Nat)) (x : Int) : Value := match s with
  | none => dv ty x
  | some none => .null
  | some (some b) => .ref b
theorem fvs_at {ty : Nat → FieldType} {f : Int → Int} : ∀ (fl : List (Option (Option Nat))) (j k : Nat) (s : Option (Option Nat)), glf fl k = some s → (fvs ty fl j f)[k]? = some (fvE (ty (j + k)) s (f ((j + k : Nat) : Int)))
  | [], j, k, s, h => by cases h
  | a :: r, j, 0, s, h => by
    have e : a = s := Option.some.inj h
    subst e
    rcases a with _ | (_ | b) <;> rfl
  | a :: r, j, k + 1, s, h => by
    have e := fvs_at (ty := ty) (f := f) r (j + 1) k s h
    rw [show j + 1 + k = j + (k + 1) by omega] at e
    rcases a with _ | (_ | b) <;> exact e
theorem fvs_ur {ty : Nat → FieldType} {f : Int → Int} {x : Int} : ∀ (fl : List (Option (Option Nat))) (j i : Nat), i < j → fvs ty fl j (ur f (i : Int) x) = fvs ty fl j f
  | [], j, i, h => rfl
  | a :: r, j, i, h => by
    have e := fvs_ur (ty := ty) (f := f) (x := x) r (j + 1) i (by omega)
    rcases a with _ | (_ | b)
    · simp only [fvs]
      rw [e, ur_ne (by omega)]
    · simp only [fvs]
      rw [e]
    · simp only [fvs]
      rw [e]
theorem fvs_set {ty : Nat → FieldType} {f : Int → Int} {x : Int} : ∀ (fl : List (Option (Option Nat))) (j k : Nat), glf fl k = some none → (fvs ty fl j f).set k (dv (ty (j + k)) x) = fvs ty fl j (ur f ((j + k : Nat) : Int) x)
  | [], j, k, h => by cases h
  | a :: r, j, 0, h => by
    have e : a = none := Option.some.inj h
    subst e
    simp only [fvs, List.set_cons_zero, Nat.add_zero]
    rw [ur_at, fvs_ur r (j + 1) j (by omega)]
  | a :: r, j, k + 1, h => by
    have e := fvs_set (ty := ty) (f := f) (x := x) r (j + 1) k h
    rw [show j + 1 + k = j + (k + 1) by omega] at e
    rcases a with _ | (_ | b)
    · simp only [fvs, List.set_cons_succ]
      rw [e, ur_ne (by omega)]
    · simp only [fvs, List.set_cons_succ]
      rw [e]
    · simp only [fvs, List.set_cons_succ]
      rw [e]
theorem fvs_len {ty : Nat → FieldType} {f : Int → Int} : ∀ (fl : List (Option (Option Nat))) (j : Nat), (fvs ty fl j f).length = fl.length
  | [], j => rfl
  | a :: r, j => by
    have e := fvs_len (ty := ty) (f := f) r (j + 1)
    rcases a with _ | (_ | b) <;> simp only [fvs, List.length_cons, e]
theorem glf_lt : ∀ (fl : List (Option (Option Nat))) (k : Nat) (s : Option (Option Nat)), glf fl k = some s → k < fl.length
  | [], k, s, h => by cases h
  | a :: r, 0, s, h => by simp
  | a :: r, k + 1, s, h => by
    have := glf_lt r k s h
    simp only [List.length_cons]
    omega
theorem dv_ref {x : Int} {n : Nat} (h : x = n) : (if x < 0 then Value.null else .ref x.toNat) = .ref n := by
  subst h
  rw [if_neg (by omega), Int.toNat_natCast]
theorem fgt_ok {mk : Nat → TV} (hmk : ∀ b, tvE (mk b) = .ref b) {ty : FieldType} {s : Option (Option (Option Nat))} {x : Int} {k : TV → Prop} (h : fgt mk ty s x k) : ∃ v s2, s = some s2 ∧ k v ∧ fvE ty s2 x = tvE v := by
  unfold fgt at h
  split at h
  · split at h
    · exact ⟨_, _, rfl, h, rfl⟩
    · exact ⟨_, _, rfl, h, rfl⟩
    · exact ⟨_, _, rfl, h, rfl⟩
    · by_cases e : x < 0
      · exact ⟨_, _, rfl, h.2 e, if_pos e⟩
      · exact ⟨_, _, rfl, h.1 x.toNat (by omega), if_neg e⟩
    · by_cases e : x < 0
      · exact ⟨_, _, rfl, h.2 e, if_pos e⟩
      · exact ⟨_, _, rfl, h.1 x.toNat (by omega), if_neg e⟩
    · exact h.elim
  · next b => exact ⟨_, _, rfl, h, (hmk b).symm⟩
  · exact ⟨_, _, rfl, h, rfl⟩
  · exact h.elim
theorem fpt_ok {ty : FieldType} {v : TV} {k : Int → Prop} (h : fpt ty v k) : ∃ x, k x ∧ eg_fit ty (tvE v) = true ∧ tvE v = dv ty x := by
  unfold fpt at h
  split at h
  · split at h
    · exact ⟨_, h, rfl, rfl⟩
    · exact h.elim
  · split at h
    · next x =>
      obtain ⟨e, h⟩ := h
      rcases e with rfl | rfl
      · exact ⟨_, h, by decide, rfl⟩
      · exact ⟨_, h, by decide, rfl⟩
    · exact h.elim
  · split at h
    · exact ⟨_, h, rfl, rfl⟩
    · exact h.elim
  · split at h
    · next n =>
      rw [nmk_eq] at h
      exact ⟨_, h, by rw [tvE_nm]; rfl, by rw [tvE_nm]; exact (dv_ref rfl).symm⟩
    · exact ⟨_, h, rfl, rfl⟩
    · exact h.elim
  · split at h
    · next n =>
      rw [nmk_eq] at h
      exact ⟨_, h, by rw [tvE_nm]; rfl, by rw [tvE_nm]; exact (dv_ref rfl).symm⟩
    · exact ⟨_, h, rfl, rfl⟩
    · exact h.elim
  · exact h.elim
section HSND
variable {d : Nat} {D : eg_D} {K : Option TV → FH → Prop} {pc : Nat} {c c2 : FC} {l : FL} {st st2 : List TV} {h h2 : FH}
theorem gf_ok {ix tg ci kf a : Nat} {z : Value} {ki : Int} {fl : List (Option (Option Nat))} {v : TV} {s : Option (Option Nat)} {r : List TV} (hP : D.2.2.2.2.2 ix = some (tg, ci, kf, z)) (ht : (tg == 2 || tg == 3 || tg == 4 || tg == 15 || tg == 16) = true) (hki : (kf : Int) = ki) (hs : shp h.1 a = some (.inr (ci, fl))) (hg : glf fl kf = some s) (hv : fvE (kY ci kf) s (h.2.1 a ki) = tvE v) : eg_h cl kY 3 D.2.2.2.2.2 (.getfield ix) (.ref a :: r.map tvE) (fm_E h) = some ((v :: r).map tvE, fm_E h) := by
  subst hki
  simp only [eg_h, eg_gf, hP]
  rw [if_pos (by simpa [or_assoc] using ht), E_at hs]
  simp only [cellE]
  rw [if_pos trivial]
  have e := fvs_at (ty := kY ci) (f := h.2.1 a) fl 0 kf s hg
  simp only [Nat.zero_add] at e
  rw [e, hv]
  rfl
theorem o_get_ok (pc2 : Nat) {ix tg ci kf : Nat} {z : Value} {ki : Int} (hM : D.2.2.2.2.1 pc = some (.getfield ix, 3)) (hP : D.2.2.2.2.2 ix = some (tg, ci, kf, z)) (ht : (tg == 2 || tg == 3 || tg == 4 || tg == 15 || tg == 16) = true) (hki : (kf : Int) = ki) (hp : pc + 3 = pc2) (hc : fm_S d D K pc2 c) : fm_S d D K pc (o_get ci kf ki c) := by
  intro l st h q
  obtain ⟨sh, M, g⟩ := h
  unfold o_get at q
  dsimp only at q
  split at q
  · next a r =>
    split at q
    · next cj fl hf =>
      cases hb : Nat.beq ci cj with
      | false => rw [hb] at q; exact q.elim
      | true =>
        rw [hb] at q
        have e := Nat.eq_of_beq_eq_true hb
        subst e
        have q2 : fgt fx (kY ci kf) (glf fl kf) (M a ki) (fun v => c l (v :: r) (sh, M, g)) := q
        obtain ⟨v, s2, e1, e2, e3⟩ := fgt_ok (mk := fx) (fun _ => rfl) q2
        exact s_h pc2 hM rfl hp (by exact gf_ok (h := (sh, M, g)) hP ht hki (shp_fx hf) e1 e3) (hc _ _ _ e2)
    · exact q.elim
  · next a r =>
    obtain ⟨fl, hf, q⟩ := q
    obtain ⟨v, s2, e1, e2, e3⟩ := fgt_ok (mk := gr) (fun _ => rfl) q
    exact s_h pc2 hM rfl hp (by exact gf_ok (h := (sh, M, g)) hP ht hki hf e1 e3) (hc _ _ _ e2)
  · exact q.elim
theorem isv_ok {s : Option (Option (Option Nat))} (h : isv s = true) : s = some none := by
  unfold isv at h
  split at h
  · rfl
  · cases h
theorem pf_ok {ix tg ci kf a : Nat} {z : Value} {ki x : Int} {fl : List (Option (Option Nat))} {v : TV} {r : List TV} (hP : D.2.2.2.2.2 ix = some (tg, ci, kf, z)) (ht : (tg == 2 || tg == 3 || tg == 4) = true) (hki : (kf : Int) = ki) (h3 : 3 ≤ a) (hs : shp h.1 a = some (.inr (ci, fl))) (hg : glf fl kf = some none) (hf : eg_fit (kY ci kf) (tvE v) = true) (hv : tvE v = dv (kY ci kf) x) : eg_h cl kY 3 D.2.2.2.2.2 (.putfield ix) (tvE v :: .ref a :: r.map tvE) (fm_E h) = some (r.map tvE, fm_E (h.1, um h.2.1 a (ur (h.2.1 a) ki x), h.2.2)) := by
  subst hki
  have e := fvs_set (ty := kY ci) (f := h.2.1 a) (x := x) fl 0 kf hg
  simp only [Nat.zero_add] at e
  have e2 := E_um hs (ur (h.2.1 a) (kf : Int) x)
  rw [← e2]
  simp only [eg_h, eg_pf, hP]
  rw [if_pos (by simpa [or_assoc] using ht), E_at hs]
  simp only [cellE]
  rw [if_pos ⟨trivial, by rw [fvs_len]; exact glf_lt fl kf _ hg, hf, h3⟩, hv, e]
theorem o_put_ok (pc2 : Nat) {ix tg ci kf : Nat} {z : Value} {ki : Int} (hM : D.2.2.2.2.1 pc = some (.putfield ix, 3)) (hP : D.2.2.2.2.2 ix = some (tg, ci, kf, z)) (ht : (tg == 2 || tg == 3 || tg == 4) = true) (hki : (kf : Int) = ki) (hp : pc + 3 = pc2) (hc : fm_S d D K pc2 c) : fm_S d D K pc (o_put ci kf ki c) := by
  intro l st h q
  obtain ⟨sh, M, g⟩ := h
  unfold o_put at q
  dsimp only at q
  split at q
  · next v a r =>
    split at q
    · next cj fl hf =>
      cases hb : (Nat.beq ci cj && Nat.ble 3 a && isv (glf fl kf)) with
      | false => rw [hb] at q; exact q.elim
      | true =>
        rw [hb] at q
        simp only [Bool.and_eq_true] at hb
        obtain ⟨⟨hb1, hb2⟩, hb3⟩ := hb
        have e := Nat.eq_of_beq_eq_true hb1
        subst e
        obtain ⟨x, e1, e2, e3⟩ := fpt_ok q
        exact s_h pc2 hM rfl hp (by exact pf_ok (h := (sh, M, g)) hP ht hki (Nat.le_of_ble_eq_true hb2) (shp_fx hf) (isv_ok hb3) e2 e3) (hc _ _ _ e1)
    · exact q.elim
  · next v a r =>
    obtain ⟨fl, ⟨h3, hf, hb3⟩, q⟩ := q
    obtain ⟨x, e1, e2, e3⟩ := fpt_ok q
    exact s_h pc2 hM rfl hp (by exact pf_ok (h := (sh, M, g)) hP ht hki h3 hf (isv_ok hb3) e2 e3) (hc _ _ _ e1)
  · exact q.elim
/-! rows -/
theorem ein_ok {i : Int} {n : Nat} (hn : n ≤ 2147483647) (h1 : 0 ≤ i) (h2 : i < n) : eg_in (Int32.ofInt i) n = true := by
  have e1 : ¬ Int32.ofInt i < 0 := by rw [i32_neg (by omega) (by omega)]; omega
  have e2 : (Int32.ofInt i).toNatClampNeg < n := by rw [i32_clamp h1 (by omega)]; omega
  simp [eg_in, e1, e2]
theorem ald_ok {t : FieldType → Bool} {ty : FieldType} {n a : Nat} {i : Int} {v : TV} {r : List TV} (hs : shp h.1 a = some (.inl (ty, n))) (ht : t ty = true) (hn : n ≤ 2147483647) (h1 : 0 ≤ i) (h2 : i < n) (hv : dv ty (h.2.1 a i) = tvE v) : eg_ald t (.int (Int32.ofInt i) :: .ref a :: r.map tvE) (fm_E h) = some ((v :: r).map tvE, fm_E h) := by
  simp only [eg_ald]
  rw [E_at hs]
  simp only [cellE]
  rw [if_pos ⟨ht, ein_ok hn h1 h2⟩, i32_clamp h1 (by omega), Int.toNat_of_nonneg h1, hv]
  rfl
theorem cell_ur {ty : FieldType} {n : Nat} {f : Int → Int} {i x : Int} {w : Value} (h1 : 0 ≤ i) (hw : w = dv ty x) : (.inl (ty, n, updV (fun k : Nat => dv ty (f k)) i.toNat w) : eg_C) = cellE (.inl (ty, n)) (ur f i x) := by
  subst hw
  show (Sum.inl (ty, n, _) : eg_C) = .inl (ty, n, _)
  congr 3
  funext k
  simp only [updV, ur]
  by_cases e : k = i.toNat
  · rw [if_pos e, if_pos (by omega)]
  · rw [if_neg e, if_neg (by omega)]
theorem ast_ok {t : FieldType → Bool} {w : Value → Bool} {ty : FieldType} {n a : Nat} {i x : Int} {v : TV} {r : List TV} (hs : shp h.1 a = some (.inl (ty, n))) (ht : t ty = true) (hw : w (tvE v) = true) (h3 : 3 ≤ a) (hn : n ≤ 2147483647) (h1 : 0 ≤ i) (h2 : i < n) (hv : narrow ty (tvE v) = dv ty x) : eg_ast 3 t w (tvE v :: .int (Int32.ofInt i) :: .ref a :: r.map tvE) (fm_E h) = some (r.map tvE, fm_E (h.1, um h.2.1 a (ur (h.2.1 a) i x), h.2.2)) := by
  simp only [eg_ast]
  rw [E_at hs]
  simp only [cellE]
  rw [if_pos ⟨ht, hw, ein_ok hn h1 h2, h3⟩, i32_clamp h1 (by omega), cell_ur h1 hv, E_um hs]
theorem o_iald_ok (pc2 : Nat) (hM : D.2.2.2.2.1 pc = some (.iaload, 1)) (hp : pc + 1 = pc2) (hc : fm_S d D K pc2 c) : fm_S d D K pc (o_iald c) := by
  intro l st h q
  obtain ⟨sh, M, g⟩ := h
  unfold o_iald at q
  dsimp only at q
  split at q
  · next i a r =>
    split at q
    · next n hf =>
      cases hb : Nat.ble n 2147483647 with
      | false => rw [hb] at q; exact q.elim
      | true =>
        rw [hb] at q
        obtain ⟨⟨e1, e2⟩, q⟩ := q
        exact s_h pc2 hM rfl hp (by exact ald_ok (h := (sh, M, g)) (shp_fx hf) rfl (Nat.le_of_ble_eq_true hb) e1 e2 rfl) (hc _ _ _ q)
    · exact q.elim
  · next i a r =>
    obtain ⟨n, hf, ⟨e0, e1, e2⟩, q⟩ := q
    exact s_h pc2 hM rfl hp (by exact ald_ok (h := (sh, M, g)) hf rfl e0 e1 e2 rfl) (hc _ _ _ q)
  · exact q.elim
theorem o_bald_ok (pc2 : Nat) (hM : D.2.2.2.2.1 pc = some (.baload, 1)) (hp : pc + 1 = pc2) (hc : fm_S d D K pc2 c) : fm_S d D K pc (o_bald c) := by
  intro l st h q
  obtain ⟨sh, M, g⟩ := h
  unfold o_bald at q
  dsimp only at q
  split at q
  · next i a r =>
    split at q
    · next n hf =>
      cases hb : Nat.ble n 2147483647 with
      | false => rw [hb] at q; exact q.elim
      | true =>
        rw [hb] at q
        obtain ⟨⟨e1, e2⟩, q⟩ := q
        exact s_h pc2 hM rfl hp (by exact ald_ok (h := (sh, M, g)) (shp_fx hf) rfl (Nat.le_of_ble_eq_true hb) e1 e2 rfl) (hc _ _ _ q)
    · exact q.elim
  · next i a r =>
    obtain ⟨n, hf, ⟨e0, e1, e2⟩, q⟩ := q
    exact s_h pc2 hM rfl hp (by exact ald_ok (h := (sh, M, g)) hf rfl e0 e1 e2 rfl) (hc _ _ _ q)
  · exact q.elim
/-- a byte, and its sign off -/
theorem ub_and (x : Int) : Int32.ofInt ((x + 128) % 256 - 128) &&& Int32.ofInt 255 = Int32.ofInt (x % 256) := by
  rw [i32_mask (k := 8) (m := 255) (q := 256) (by omega) _ rfl rfl]
  congr 1
  omega
theorem o_ubld_ok (pcm pcn pc2 : Nat) (hM : D.2.2.2.2.1 pc = some (.baload, 1)) (hpm : pc + 1 = pcm) (hpush : ∀ c2 : FC, fm_S d D K pcn c2 → fm_S d D K pcm (o_ic 255 c2)) (hN : D.2.2.2.2.1 pcn = some (.iand, 1)) (hp : pcn + 1 = pc2) (hc : fm_S d D K pc2 c) : fm_S d D K pc (o_ubld c) := by
  intro l st h q
  obtain ⟨sh, M, g⟩ := h
  unfold o_ubld at q
  dsimp only at q
  split at q
  · next i a r =>
    split at q
    · next n hf =>
      cases hb : Nat.ble n 2147483647 with
      | false => rw [hb] at q; exact q.elim
      | true =>
        rw [hb] at q
        obtain ⟨⟨e1, e2⟩, q⟩ := q
        refine s_h pcm hM rfl hpm (by exact ald_ok (h := (sh, M, g)) (v := ti ((M a i + 128) % 256 - 128)) (shp_fx hf) rfl (Nat.le_of_ble_eq_true hb) e1 e2 rfl) ?_
        refine s_push hpush (s_p pc2 hN rfl hp ?_ (hc _ _ _ q))
        exact congrArg (fun z => some (Value.int z :: r.map tvE)) (ub_and _)
    · exact q.elim
  · next i a r =>
    obtain ⟨n, hf, ⟨e0, e1, e2⟩, q⟩ := q
    refine s_h pcm hM rfl hpm (by exact ald_ok (h := (sh, M, g)) (v := ti ((M a i + 128) % 256 - 128)) hf rfl e0 e1 e2 rfl) ?_
    refine s_push hpush (s_p pc2 hN rfl hp ?_ (hc _ _ _ q))
    exact congrArg (fun z => some (Value.int z :: r.map tvE)) (ub_and _)
  · exact q.elim
theorem o_zald_ok (pc2 : Nat) (hM : D.2.2.2.2.1 pc = some (.baload, 1)) (hp : pc + 1 = pc2) (hc : fm_S d D K pc2 c) : fm_S d D K pc (o_zald c) := by
  intro l st h q
  obtain ⟨sh, M, g⟩ := h
  unfold o_zald at q
  dsimp only at q
  split at q
  · next i a r =>
    split at q
    · next n hf =>
      cases hb : Nat.ble n 2147483647 with
      | false => rw [hb] at q; exact q.elim
      | true =>
        rw [hb] at q
        obtain ⟨⟨e1, e2⟩, q⟩ := q
        exact s_h pc2 hM rfl hp (by exact ald_ok (h := (sh, M, g)) (shp_fx hf) rfl (Nat.le_of_ble_eq_true hb) e1 e2 rfl) (hc _ _ _ q)
    · exact q.elim
  · exact q.elim
theorem o_lald_ok (pc2 : Nat) (hM : D.2.2.2.2.1 pc = some (.laload, 1)) (hp : pc + 1 = pc2) (hc : fm_S d D K pc2 c) : fm_S d D K pc (o_lald c) := by
  intro l st h q
  obtain ⟨sh, M, g⟩ := h
  unfold o_lald at q
  dsimp only at q
  split at q
  · next i a r =>
    split at q
    · next n hf =>
      cases hb : Nat.ble n 2147483647 with
      | false => rw [hb] at q; exact q.elim
      | true =>
        rw [hb] at q
        obtain ⟨⟨e1, e2⟩, q⟩ := q
        exact s_h pc2 hM rfl hp (by exact ald_ok (h := (sh, M, g)) (shp_fx hf) rfl (Nat.le_of_ble_eq_true hb) e1 e2 rfl) (hc _ _ _ q)
    · exact q.elim
  · exact q.elim
theorem o_aald_ok (pc2 : Nat) (hM : D.2.2.2.2.1 pc = some (.aaload, 1)) (hp : pc + 1 = pc2) (hc : fm_S d D K pc2 c) : fm_S d D K pc (o_aald c) := by
  intro l st h q
  obtain ⟨sh, M, g⟩ := h
  unfold o_aald at q
  dsimp only at q
  split at q
  · next i a r =>
    split at q
    · next C n hf =>
      cases hb : Nat.ble n 2147483647 with
      | false => rw [hb] at q; exact q.elim
      | true =>
        rw [hb] at q
        obtain ⟨⟨e1, e2⟩, q1, q2⟩ := q
        by_cases e : M a i < 0
        · exact s_h pc2 hM rfl hp (by exact ald_ok (h := (sh, M, g)) (v := nl) (shp_fx hf) rfl (Nat.le_of_ble_eq_true hb) e1 e2 (if_pos e)) (hc _ _ _ (q2 e))
        · exact s_h pc2 hM rfl hp (by exact ald_ok (h := (sh, M, g)) (v := gr (M a i).toNat) (shp_fx hf) rfl (Nat.le_of_ble_eq_true hb) e1 e2 (if_neg e)) (hc _ _ _ (q1 _ (by omega)))
    · exact q.elim
  · exact q.elim
theorem o_iast_ok (pc2 : Nat) (hM : D.2.2.2.2.1 pc = some (.iastore, 1)) (hp : pc + 1 = pc2) (hc : fm_S d D K pc2 c) : fm_S d D K pc (o_iast c) := by
  intro l st h q
  obtain ⟨sh, M, g⟩ := h
  unfold o_iast at q
  dsimp only at q
  split at q
  · next x i a r =>
    split at q
    · next n hf =>
      cases hb : (Nat.ble 3 a && Nat.ble n 2147483647) with
      | false => rw [hb] at q; exact q.elim
      | true =>
        rw [hb] at q
        simp only [Bool.and_eq_true] at hb
        obtain ⟨⟨e1, e2⟩, q⟩ := q
        exact s_h pc2 hM rfl hp (by exact ast_ok (h := (sh, M, g)) (v := ti x) (shp_fx hf) rfl rfl (Nat.le_of_ble_eq_true hb.1) (Nat.le_of_ble_eq_true hb.2) e1 e2 rfl) (hc _ _ _ q)
    · exact q.elim
  · next x i a r =>
    obtain ⟨n, hf, ⟨e3, e0, e1, e2⟩, q⟩ := q
    exact s_h pc2 hM rfl hp (by exact ast_ok (h := (sh, M, g)) (v := ti x) hf rfl rfl e3 e0 e1 e2 rfl) (hc _ _ _ q)
  · exact q.elim
theorem nar_b (x : Int) : narrow .byte (tvE (ti x)) = dv .byte x := congrArg Value.int (i32_i2b x)
theorem nar_z (x : Int) : narrow .boolean (tvE (ti x)) = dv .boolean x := congrArg Value.int (i32_mask (k := 1) (m := 1) (q := 2) (by omega) x rfl rfl)
theorem o_bast_ok (pc2 : Nat) (hM : D.2.2.2.2.1 pc = some (.bastore, 1)) (hp : pc + 1 = pc2) (hc : fm_S d D K pc2 c) : fm_S d D K pc (o_bast c) := by
  intro l st h q
  obtain ⟨sh, M, g⟩ := h
  unfold o_bast at q
  dsimp only at q
  split at q
  · next x i a r =>
    split at q
    · next n hf =>
      cases hb : (Nat.ble 3 a && Nat.ble n 2147483647) with
      | false => rw [hb] at q; exact q.elim
      | true =>
        rw [hb] at q
        simp only [Bool.and_eq_true] at hb
        obtain ⟨⟨e1, e2⟩, q⟩ := q
        exact s_h pc2 hM rfl hp (by exact ast_ok (h := (sh, M, g)) (v := ti x) (shp_fx hf) rfl rfl (Nat.le_of_ble_eq_true hb.1) (Nat.le_of_ble_eq_true hb.2) e1 e2 (nar_b x)) (hc _ _ _ q)
    · next n hf =>
      cases hb : (Nat.ble 3 a && Nat.ble n 2147483647) with
      | false => rw [hb] at q; exact q.elim
      | true =>
        rw [hb] at q
        simp only [Bool.and_eq_true] at hb
        obtain ⟨⟨e1, e2⟩, q⟩ := q
        exact s_h pc2 hM rfl hp (by exact ast_ok (h := (sh, M, g)) (v := ti x) (shp_fx hf) rfl rfl (Nat.le_of_ble_eq_true hb.1) (Nat.le_of_ble_eq_true hb.2) e1 e2 (nar_z x)) (hc _ _ _ q)
    · exact q.elim
  · next x i a r =>
    obtain ⟨n, hf, ⟨e3, e0, e1, e2⟩, q⟩ := q
    exact s_h pc2 hM rfl hp (by exact ast_ok (h := (sh, M, g)) (v := ti x) hf rfl rfl e3 e0 e1 e2 (nar_b x)) (hc _ _ _ q)
  · exact q.elim
theorem o_last_ok (pc2 : Nat) (hM : D.2.2.2.2.1 pc = some (.lastore, 1)) (hp : pc + 1 = pc2) (hc : fm_S d D K pc2 c) : fm_S d D K pc (o_last c) := by
  intro l st h q
  obtain ⟨sh, M, g⟩ := h
  unfold o_last at q
  dsimp only at q
  split at q
  · next x i a r =>
    split at q
    · next n hf =>
      cases hb : (Nat.ble 3 a && Nat.ble n 2147483647) with
      | false => rw [hb] at q; exact q.elim
      | true =>
        rw [hb] at q
        simp only [Bool.and_eq_true] at hb
        obtain ⟨⟨e1, e2⟩, q⟩ := q
        exact s_h pc2 hM rfl hp (by exact ast_ok (h := (sh, M, g)) (v := tj x) (shp_fx hf) rfl rfl (Nat.le_of_ble_eq_true hb.1) (Nat.le_of_ble_eq_true hb.2) e1 e2 rfl) (hc _ _ _ q)
    · exact q.elim
  · exact q.elim
theorem rok_ok {C : String} {n : Nat} (hr : rok h.1 C (n : Int)) : eg_ref cl (fm_E h) C (.ref n) = true := by
  obtain ⟨ci, fl, y, e1, e2, e3⟩ := hr (by omega)
  rw [Int.toNat_natCast] at e1
  simp only [eg_ref]
  rw [E_at e1]
  simp only [cellE]
  rw [e2]
  simp [e3]
theorem asq_ok {C : String} {n a : Nat} {i x : Int} {v : TV} {r : List TV} (hs : shp h.1 a = some (.inl (.object C, n))) (hr : eg_ref cl (fm_E h) C (tvE v) = true) (h3 : 3 ≤ a) (hn : n ≤ 2147483647) (h1 : 0 ≤ i) (h2 : i < n) (hv : tvE v = dv (.object C) x) : eg_asq cl 3 (tvE v :: .int (Int32.ofInt i) :: .ref a :: r.map tvE) (fm_E h) = some (r.map tvE, fm_E (h.1, um h.2.1 a (ur (h.2.1 a) i x), h.2.2)) := by
  simp only [eg_asq]
  rw [E_at hs]
  simp only [cellE]
  rw [if_pos ⟨hr, ein_ok hn h1 h2, h3⟩, i32_clamp h1 (by omega), cell_ur h1 hv, E_um hs]
theorem o_aast_ok (pc2 : Nat) (hM : D.2.2.2.2.1 pc = some (.aastore, 1)) (hp : pc + 1 = pc2) (hc : fm_S d D K pc2 c) : fm_S d D K pc (o_aast c) := by
  intro l st h q
  obtain ⟨sh, M, g⟩ := h
  unfold o_aast at q
  dsimp only at q
  split at q
  · next v i a r =>
    split at q
    · next C n hf =>
      cases hb : (Nat.ble 3 a && Nat.ble n 2147483647) with
      | false => rw [hb] at q; exact q.elim
      | true =>
        rw [hb] at q
        simp only [Bool.and_eq_true] at hb
        have q : nmk v (fun y => (0 ≤ i ∧ i < n) ∧ rok sh C y ∧ c l r (sh, um M a (ur (M a) i y), g)) := q
        rw [nmk_eq] at q
        obtain ⟨⟨e1, e2⟩, hr, q⟩ := q
        exact s_h pc2 hM rfl hp (by exact asq_ok (h := (sh, M, g)) (v := .inr (.inl v)) (shp_fx hf) (by rw [tvE_nm]; exact rok_ok (h := (sh, M, g)) hr) (Nat.le_of_ble_eq_true hb.1) (Nat.le_of_ble_eq_true hb.2) e1 e2 (by rw [tvE_nm]; exact (dv_ref rfl).symm)) (hc _ _ _ q)
    · exact q.elim
  · next u i a r =>
    split at q
    · next C n hf =>
      cases hb : (Nat.ble 3 a && Nat.ble n 2147483647) with
      | false => rw [hb] at q; exact q.elim
      | true =>
        rw [hb] at q
        simp only [Bool.and_eq_true] at hb
        obtain ⟨⟨e1, e2⟩, q⟩ := q
        exact s_h pc2 hM rfl hp (by exact asq_ok (h := (sh, M, g)) (v := .inr (.inr u)) (shp_fx hf) rfl (Nat.le_of_ble_eq_true hb.1) (Nat.le_of_ble_eq_true hb.2) e1 e2 rfl) (hc _ _ _ q)
    · exact q.elim
  · exact q.elim
theorem len_ok {t : FieldType} {n a : Nat} {r : List TV} (hs : shp h.1 a = some (.inl (t, n))) : eg_len (.ref a :: r.map tvE) (fm_E h) = some ((ti n :: r).map tvE, fm_E h) := by
  simp only [eg_len]
  rw [E_at hs]
  simp only [cellE]
  exact congrArg (fun z => some (Value.int z :: r.map tvE, fm_E h)) Int32.ofInt_eq_ofNat.symm
theorem o_len_ok (pc2 : Nat) (hM : D.2.2.2.2.1 pc = some (.arraylength, 1)) (hp : pc + 1 = pc2) (hc : fm_S d D K pc2 c) : fm_S d D K pc (o_len c) := by
  intro l st h q
  obtain ⟨sh, M, g⟩ := h
  unfold o_len at q
  dsimp only at q
  split at q
  · next a r =>
    split at q
    · next t n hf => exact s_h pc2 hM rfl hp (by exact len_ok (h := (sh, M, g)) (shp_fx hf)) (hc _ _ _ q)
    · exact q.elim
  · next a r =>
    obtain ⟨t, n, hf, q⟩ := q
    exact s_h pc2 hM rfl hp (by exact len_ok (h := (sh, M, g)) hf) (hc _ _ _ q)
  · exact q.elim
theorem sumc_ok : ∀ r : List TV, eg_sum (r.map tvE) = sumc r
  | [] => rfl
  | v :: r => by
    have e := sumc_ok r
    unfold eg_sum at e ⊢
    simp only [List.map_cons, List.sum_cons]
    rw [e]
    rcases v with (x | x) | ((x | x) | x) <;> simp only [sumc] <;> (show _ + _ = _; first | (show 1 + _ = _; omega) | (show 2 + _ = _; omega))
theorem cpf_ok {t : FieldType} {f g : Int → Int} {sp dp n : Int} (h1 : 0 ≤ sp) (h2 : 0 ≤ dp) (h3 : 0 ≤ n) : (va_cpy (fun i : Nat => dv t (f i)) (fun i : Nat => dv t (g i)) sp.toNat dp.toNat n.toNat) = fun i : Nat => dv t (cpf f g sp dp n i) := by
  funext i
  simp only [va_cpy, cpf]
  by_cases e : dp.toNat ≤ i ∧ i < dp.toNat + n.toNat
  · rw [if_pos e, if_pos (by omega)]
    congr 2
    omega
  · rw [if_neg e, if_neg (by omega)]
theorem rfs_ok {t : FieldType} {f : Int → Int} {sp n : Int} (h1 : 0 ≤ sp) (h3 : 0 ≤ n) (hr : rfs h.1 t f sp n) : eg_refs cl (fm_E h) t (fun i : Nat => dv t (f i)) sp.toNat n.toNat = true := by
  unfold rfs at hr
  split at hr
  · next C =>
    simp only [eg_refs, List.all_eq_true, List.mem_range]
    intro i hi
    have e := hr ((sp.toNat + i : Nat) : Int) (by omega) (by omega)
    show eg_ref cl (fm_E h) C (if f ((sp.toNat + i : Nat) : Int) < 0 then .null else .ref (f ((sp.toNat + i : Nat) : Int)).toNat) = true
    by_cases e2 : f ((sp.toNat + i : Nat) : Int) < 0
    · rw [if_pos e2]
      rfl
    · rw [if_neg e2]
      refine rok_ok ?_
      rw [Int.toNat_of_nonneg (by omega)]
      exact e
  · exact hr.elim
  · next h1 h2 =>
    unfold eg_refs
    split
    · next C => exact absurd rfl (h1 C)
    · next C => exact absurd rfl (h2 C)
    · rfl
theorem o_copy_ok (pc2 : Nat) {ix k1 k2 : Nat} {z : Value} (hM : D.2.2.2.2.1 pc = some (.invokestatic ix, 3)) (hP : D.2.2.2.2.2 ix = some (17, k1, k2, z)) (hp : pc + 3 = pc2) (hc : fm_S d D K pc2 c) : fm_S d D K pc (o_copy c) := by
  intro l st h q
  obtain ⟨sh, M, g⟩ := h
  unfold o_copy at q
  dsimp only at q
  split at q
  · next n dp b sp a r =>
    rw [nmk_eq, nmk_eq] at q
    obtain ⟨t, na, nd, ⟨s1, s2⟩, ⟨b1, b2, b3, b4, b5, b6, b7⟩, ⟨r1, r2, r3⟩, q⟩ := q
    refine s_h pc2 hM rfl hp ?_ (hc _ _ _ q)
    simp only [List.map_cons, tvE_nm]
    simp only [eg_h, eg_is, hP]
    rw [eg_mm_no (by show 17 < 20; omega)]
    dsimp only
    simp only [eg_cp]
    rw [if_pos trivial]
    simp only [tvE]
    rw [E_at (h := (sh, M, g)) s1, E_at (h := (sh, M, g)) s2]
    simp only [cellE]
    rw [if_pos ⟨trivial, by rw [i32_neg (by omega) (by omega)]; omega, by rw [i32_neg (by omega) (by omega)]; omega, by rw [i32_neg (by omega) (by omega)]; omega, by rw [i32_clamp b3 (by omega), i32_clamp b5 (by omega)]; omega, by rw [i32_clamp b4 (by omega), i32_clamp b5 (by omega)]; omega, by rw [i32_clamp b3 (by omega), i32_clamp b5 (by omega)]; exact rfs_ok (h := (sh, M, g)) b3 b5 r1, by rw [sumc_ok]; exact r2, r3⟩]
    rw [i32_clamp b3 (by omega), i32_clamp b4 (by omega), i32_clamp b5 (by omega), cpf_ok b3 b4 b5]
    exact congrArg (fun z => some (r.map tvE, z)) (E_um (h := (sh, M, g)) s2 _)
  · exact q.elim
theorem mx_i {f : Int32 → Int32 → Int32} {g : Int → Int → Int} {x y : Int} {r : List TV} (hf : f (Int32.ofInt x) (Int32.ofInt y) = Int32.ofInt (g x y)) (hr : Nat.ble (sumc r) 8 = true) (H : eg_H) : eg_mx f (.int (Int32.ofInt y) :: .int (Int32.ofInt x) :: r.map tvE) H = some ((ti (g x y) :: r).map tvE, H) := by
  simp only [eg_mx]
  rw [if_pos (by rw [sumc_ok]; exact Nat.le_of_ble_eq_true hr), hf]
  rfl
theorem mx_l {f : Int64 → Int64 → Int64} {g : Int → Int → Int} {x y : Int} {r : List TV} (hf : f (Int64.ofInt x) (Int64.ofInt y) = Int64.ofInt (g x y)) (hr : Nat.ble (sumc r) 8 = true) (H : eg_H) : eg_mxl f (.long (Int64.ofInt y) :: .long (Int64.ofInt x) :: r.map tvE) H = some ((tj (g x y) :: r).map tvE, H) := by
  simp only [eg_mxl]
  rw [if_pos (by rw [sumc_ok]; exact Nat.le_of_ble_eq_true hr), hf]
  rfl
theorem o_max_ok (pc2 : Nat) {ix k1 k2 : Nat} {z : Value} (hM : D.2.2.2.2.1 pc = some (.invokestatic ix, 3)) (hP : D.2.2.2.2.2 ix = some (20, k1, k2, z)) (hp : pc + 3 = pc2) (hc : fm_S d D K pc2 c) : fm_S d D K pc (o_max c) := by
  intro l st h q
  unfold o_max at q
  split at q
  · next y x r =>
    obtain ⟨⟨e1, e2, e3, e4⟩, q⟩ := q
    cases hb : Nat.ble (sumc r) 8 with
    | false => rw [hb] at q; exact q.elim
    | true =>
      rw [hb] at q
      refine s_h pc2 hM rfl hp ?_ (hc _ _ _ q)
      simp only [eg_h, eg_is, hP, eg_mm]
      rw [if_pos trivial, show ((.inl (.inl y) :: .inl (.inl x) :: r : List TV).map tvE) = .int (Int32.ofInt y) :: .int (Int32.ofInt x) :: r.map tvE from rfl, mx_i (g := max) ?_ hb]
      show (if Int32.ofInt x < Int32.ofInt y then Int32.ofInt y else Int32.ofInt x) = _
      by_cases e : x < y
      · rw [if_pos (Int32.lt_iff_toInt_lt.2 (by rw [i32_of e1 e2, i32_of e3 e4]; exact e)), Int.max_eq_right (by omega)]
      · rw [if_neg (fun z => e (by have := Int32.lt_iff_toInt_lt.1 z; rw [i32_of e1 e2, i32_of e3 e4] at this; exact this)), Int.max_eq_left (by omega)]
  · exact q.elim
theorem o_min_ok (pc2 : Nat) {ix k1 k2 : Nat} {z : Value} (hM : D.2.2.2.2.1 pc = some (.invokestatic ix, 3)) (hP : D.2.2.2.2.2 ix = some (21, k1, k2, z)) (hp : pc + 3 = pc2) (hc : fm_S d D K pc2 c) : fm_S d D K pc (o_min c) := by
  intro l st h q
  unfold o_min at q
  split at q
  · next y x r =>
    obtain ⟨⟨e1, e2, e3, e4⟩, q⟩ := q
    cases hb : Nat.ble (sumc r) 8 with
    | false => rw [hb] at q; exact q.elim
    | true =>
      rw [hb] at q
      refine s_h pc2 hM rfl hp ?_ (hc _ _ _ q)
      simp only [eg_h, eg_is, hP, eg_mm]
      rw [if_neg (by decide), if_pos trivial, show ((.inl (.inl y) :: .inl (.inl x) :: r : List TV).map tvE) = .int (Int32.ofInt y) :: .int (Int32.ofInt x) :: r.map tvE from rfl, mx_i (g := min) ?_ hb]
      show (if Int32.ofInt y < Int32.ofInt x then Int32.ofInt y else Int32.ofInt x) = _
      by_cases e : y < x
      · rw [if_pos (Int32.lt_iff_toInt_lt.2 (by rw [i32_of e1 e2, i32_of e3 e4]; exact e)), Int.min_eq_right (by omega)]
      · rw [if_neg (fun z => e (by have := Int32.lt_iff_toInt_lt.1 z; rw [i32_of e1 e2, i32_of e3 e4] at this; exact this)), Int.min_eq_left (by omega)]
  · exact q.elim
theorem o_lmax_ok (pc2 : Nat) {ix k1 k2 : Nat} {z : Value} (hM : D.2.2.2.2.1 pc = some (.invokestatic ix, 3)) (hP : D.2.2.2.2.2 ix = some (22, k1, k2, z)) (hp : pc + 3 = pc2) (hc : fm_S d D K pc2 c) : fm_S d D K pc (o_lmax c) := by
  intro l st h q
  unfold o_lmax at q
  split at q
  · next y x r =>
    obtain ⟨⟨e1, e2, e3, e4⟩, q⟩ := q
    cases hb : Nat.ble (sumc r) 8 with
    | false => rw [hb] at q; exact q.elim
    | true =>
      rw [hb] at q
      refine s_h pc2 hM rfl hp ?_ (hc _ _ _ q)
      simp only [eg_h, eg_is, hP, eg_mm]
      rw [if_neg (by decide), if_neg (by decide), if_pos trivial, show ((.inl (.inr y) :: .inl (.inr x) :: r : List TV).map tvE) = .long (Int64.ofInt y) :: .long (Int64.ofInt x) :: r.map tvE from rfl, mx_l (g := max) ?_ hb]
      show (if Int64.ofInt y < Int64.ofInt x then Int64.ofInt x else Int64.ofInt y) = _
      by_cases e : y < x
      · rw [if_pos (Int64.lt_iff_toInt_lt.2 (by rw [i64_of e1 e2, i64_of e3 e4]; exact e)), Int.max_eq_left (by omega)]
      · rw [if_neg (fun z => e (by have := Int64.lt_iff_toInt_lt.1 z; rw [i64_of e1 e2, i64_of e3 e4] at this; exact this)), Int.max_eq_right (by omega)]
  · exact q.elim
theorem o_lmin_ok (pc2 : Nat) {ix k1 k2 : Nat} {z : Value} (hM : D.2.2.2.2.1 pc = some (.invokestatic ix, 3)) (hP : D.2.2.2.2.2 ix = some (23, k1, k2, z)) (hp : pc + 3 = pc2) (hc : fm_S d D K pc2 c) : fm_S d D K pc (o_lmin c) := by
  intro l st h q
  unfold o_lmin at q
  split at q
  · next y x r =>
    obtain ⟨⟨e1, e2, e3, e4⟩, q⟩ := q
    cases hb : Nat.ble (sumc r) 8 with
    | false => rw [hb] at q; exact q.elim
    | true =>
      rw [hb] at q
      refine s_h pc2 hM rfl hp ?_ (hc _ _ _ q)
      simp only [eg_h, eg_is, hP, eg_mm]
      rw [if_neg (by decide), if_neg (by decide), if_neg (by decide), if_pos trivial, show ((.inl (.inr y) :: .inl (.inr x) :: r : List TV).map tvE) = .long (Int64.ofInt y) :: .long (Int64.ofInt x) :: r.map tvE from rfl, mx_l (g := min) ?_ hb]
      show (if Int64.ofInt y < Int64.ofInt x then Int64.ofInt y else Int64.ofInt x) = _
      by_cases e : y < x
      · rw [if_pos (Int64.lt_iff_toInt_lt.2 (by rw [i64_of e1 e2, i64_of e3 e4]; exact e)), Int.min_eq_right (by omega)]
      · rw [if_neg (fun z => e (by have := Int64.lt_iff_toInt_lt.1 z; rw [i64_of e1 e2, i64_of e3 e4] at this; exact this)), Int.min_eq_left (by omega)]
  · exact q.elim
/-! calls -/
theorem rvk_ok : ∀ (n : Nat) (st : List TV) (as : List Value) (k : List Value → List TV → Prop), rvk n st as k → n ≤ st.length ∧ k (((st.map tvE).take n).reverse ++ as) (st.drop n)
  | 0, st, as, k, h => ⟨Nat.zero_le _, h⟩
  | n + 1, [], as, k, h => h.elim
  | n + 1, v :: st, as, k, h => by
    obtain ⟨h1, h2⟩ := rvk_ok n st (tvE v :: as) k h
    refine ⟨Nat.succ_le_succ h1, ?_⟩
    simp only [List.map_cons, List.take_succ_cons, List.reverse_cons, List.append_assoc, List.singleton_append, List.drop_succ_cons]
    exact h2
theorem s_call (pc2 : Nat) {i : Instr} {j : Nat} {as : List Value} {r : List TV} (hM : D.2.2.2.2.1 pc = some (i, 3)) (hq : eg_cq D.2.2.2.2.2 i (st.map tvE) (fm_E h) = some (j, as, r.map tvE)) (hp : pc + 3 = pc2) (k : fm_Y d j as h (fun w h2 => fm_X d D pc2 l (w.toList ++ r) h2 K)) : fm_X d D pc l st h K := by
  refine g_call pc2 hM hq hp (eg_Y.imp k (fun v g q => ?_))
  obtain ⟨w, H, rfl, rfl, q⟩ := q
  have e : (w.map tvE).toList ++ r.map tvE = (w.toList ++ r).map tvE := by cases w <;> rfl
  rw [e]
  exact q
theorem o_calls_ok (pc2 : Nat) {ix tg j n : Nat} {z : Value} (hM : D.2.2.2.2.1 pc = some (.invokestatic ix, 3)) (hP : D.2.2.2.2.2 ix = some (tg, j, n, z)) (ht : tg = 7 ∨ tg = 9) (hp : pc + 3 = pc2) (hc : fm_S d D K pc2 c) : fm_S d D K pc (o_calls d j n c) := by
  intro l st h q
  obtain ⟨h1, q⟩ := rvk_ok n st [] _ q
  cases hb : Nat.ble (sumc (st.drop n)) 8 with
  | false => rw [hb] at q; exact q.elim
  | true =>
    rw [hb] at q
    refine s_call (r := st.drop n) pc2 hM ?_ hp (fm_Y.imp q (fun w H q => hc _ _ _ q))
    simp only [eg_cq, hP]
    rw [if_pos ⟨ht, by rw [List.length_map]; exact h1, by rw [← List.map_drop, sumc_ok]; exact Nat.le_of_ble_eq_true hb⟩, List.append_nil, List.map_drop]
theorem cq_vt {ix tg j n a ci : Nat} {r : List TV} {fl : List (Option (Option Nat))} (x : Nat ⊕ Nat) (hx : nm x = a) (hP : D.2.2.2.2.2 ix = some (tg, j, n, .ref ci)) (ht : tg = 6 ∨ tg = 8) (hl : n ≤ st.length) (hd : st.drop n = .inr (.inl x) :: r) (hs : shp h.1 a = some (.inr (ci, fl))) (hb : Nat.ble (sumc r) 8 = true) : eg_cq D.2.2.2.2.2 (.invokevirtual ix) (st.map tvE) (fm_E h) = some (j, .ref a :: ((st.map tvE).take n).reverse, r.map tvE) := by
  simp only [eg_cq, hP]
  rw [if_pos ⟨ht, by rw [List.length_map]; exact hl⟩, ← List.map_drop, hd]
  simp only [List.map_cons, tvE_nm, hx]
  rw [E_at hs]
  simp only [cellE]
  rw [if_pos ⟨trivial, by rw [sumc_ok]; exact Nat.le_of_ble_eq_true hb⟩]
theorem o_callv_ok (pc2 : Nat) {ix tg j n ci : Nat} (hM : D.2.2.2.2.1 pc = some (.invokevirtual ix, 3)) (hP : D.2.2.2.2.2 ix = some (tg, j, n, .ref ci)) (ht : tg = 6 ∨ tg = 8) (hp : pc + 3 = pc2) (hc : fm_S d D K pc2 c) : fm_S d D K pc (o_callv d j n ci c) := by
  intro l st h q
  obtain ⟨sh, M, g⟩ := h
  obtain ⟨h1, q⟩ := rvk_ok n st [] _ q
  rw [List.append_nil] at q
  split at q
  · next a r2 hd =>
    split at q
    · next cj fl hf =>
      cases hb : (Nat.beq ci cj && Nat.ble (sumc r2) 8) with
      | false => rw [hb] at q; exact q.elim
      | true =>
        rw [hb] at q
        simp only [Bool.and_eq_true] at hb
        have e := Nat.eq_of_beq_eq_true hb.1
        subst e
        exact s_call pc2 hM (cq_vt (h := (sh, M, g)) (.inl a) rfl hP ht h1 hd (shp_fx hf) hb.2) hp (fm_Y.imp q (fun w H q => hc _ _ _ q))
    · exact q.elim
  · next a r2 hd =>
    obtain ⟨⟨fl, hf⟩, q⟩ := q
    cases hb : Nat.ble (sumc r2) 8 with
    | false => rw [hb] at q; exact q.elim
    | true =>
      rw [hb] at q
      exact s_call pc2 hM (cq_vt (h := (sh, M, g)) (.inr a) rfl hP ht h1 hd hf hb) hp (fm_Y.imp q (fun w H q => hc _ _ _ q))
  · exact q.elim
theorem o_callp_ok (pc2 : Nat) {ix tg j n : Nat} {z : Value} (hM : D.2.2.2.2.1 pc = some (.invokespecial ix, 3)) (hP : D.2.2.2.2.2 ix = some (tg, j, n, z)) (ht : tg = 5 ∨ tg = 10) (hp : pc + 3 = pc2) (hc : fm_S d D K pc2 c) : fm_S d D K pc (o_callp d j n c) := by
  intro l st h q
  obtain ⟨h1, q⟩ := rvk_ok n st [] _ q
  rw [List.append_nil] at q
  split at q
  · next a r2 hd =>
    rw [nmk_eq] at q
    cases hb : Nat.ble (sumc r2) 8 with
    | false => rw [hb] at q; exact q.elim
    | true =>
      rw [hb] at q
      refine s_call (r := r2) pc2 hM ?_ hp (fm_Y.imp q (fun w H q => hc _ _ _ q))
      simp only [eg_cq, hP]
      rw [if_pos ⟨ht, by rw [List.length_map]; exact h1⟩, ← List.map_drop, hd]
      simp only [List.map_cons, tvE_nm]
      rw [if_pos (by rw [sumc_ok]; exact Nat.le_of_ble_eq_true hb)]
  · exact q.elim
/-! returns -/
theorem s_ret {v : Option Value} {w : Option TV} (hr : eg_ret D.2.2.2.1 D.2.2.2.2 (pc, lE l, st.map tvE, fm_E h) = some v) (hv : v = w.map tvE) (q : K w h) : fm_X d D pc l st h K := g_ret hr ⟨w, h, hv, rfl, q⟩
theorem o_iret_ok (hM : D.2.2.2.2.1 pc = some (.ireturn, 1)) (ht : D.2.2.2.1 = some .int) : fm_S d D K pc (o_iret K) := by
  intro l st h q
  unfold o_iret at q
  split at q
  · next x =>
    refine s_ret (v := some (.int (Int32.ofInt x))) (w := some (ti x)) ?_ rfl q
    unfold eg_ret
    simp only [hM, ht]
    rfl
  · exact q.elim
theorem o_zret_ok (hM : D.2.2.2.2.1 pc = some (.ireturn, 1)) (ht : D.2.2.2.1 = some .boolean) : fm_S d D K pc (o_zret K) := by
  intro l st h q
  unfold o_zret at q
  split at q
  · next x =>
    obtain ⟨e, q⟩ := q
    refine s_ret (v := some (.int (Int32.ofInt x))) (w := some (ti x)) ?_ rfl q
    unfold eg_ret
    simp only [hM, ht]
    rcases e with rfl | rfl <;> rfl
  · exact q.elim
theorem o_lret_ok (hM : D.2.2.2.2.1 pc = some (.lreturn, 1)) (ht : D.2.2.2.1 = some .long) : fm_S d D K pc (o_lret K) := by
  intro l st h q
  unfold o_lret at q
  split at q
  · next x =>
    refine s_ret (v := some (.long (Int64.ofInt x))) (w := some (tj x)) ?_ rfl q
    unfold eg_ret
    simp only [hM, ht]
    rfl
  · exact q.elim
theorem o_aret_ok {C : String} (hM : D.2.2.2.2.1 pc = some (.areturn, 1)) (ht : D.2.2.2.1 = some (.object C)) : fm_S d D K pc (o_aret K) := by
  intro l st h q
  unfold o_aret at q
  split at q
  · next x =>
    refine s_ret (v := some (tvE (.inr x))) (w := some (.inr x)) ?_ rfl q
    unfold eg_ret
    simp only [hM, ht]
    rcases x with (x | x) | x <;> rfl
  · exact q.elim
theorem o_ret_ok (hM : D.2.2.2.2.1 pc = some (.return_, 1)) (ht : D.2.2.2.1 = none) : fm_S d D K pc (o_ret K) := by
  intro l st h q
  unfold o_ret at q
  split at q
  · refine s_ret (v := none) (w := none) ?_ rfl q
    unfold eg_ret
    simp only [hM, ht]
    rfl
  · exact q.elim
/-! a method's beginning -/
def argk : List TV → Nat → (FL → Prop) → Prop
  | [], 0, k => k []
  | [], n + 1, k => argk [] n (fun l => k (none :: l))
  | _ :: _, 0, _ => False
  | v :: r, n + 1, k => (match v with
    | .inl (.inr x) => (match n with
      | 0 => False
      | m + 1 => argk r m (fun l => k (some (tj x) :: none :: l)))
    | .inl (.inl x) => argk r n (fun l => k (some (ti x) :: l))
    | .inr x => argk r n (fun l => k (some (.inr x) :: l)))
theorem row_nil : ∀ n, ∀ k : FL → Prop, argk [] n k → ∃ l, k l ∧ lE l = List.replicate n none
  | 0, k, h => ⟨[], h, rfl⟩
  | n + 1, k, h => by
    obtain ⟨l, e, e2⟩ := row_nil n _ h
    exact ⟨_, e, by simp only [List.map_cons, e2, Option.map_none]; rfl⟩
theorem argk_ok : ∀ (vs : List TV) (n : Nat) (k : FL → Prop), argk vs n k → ∃ l, k l ∧ (eg_row (vs.map tvE)).length ≤ n ∧ lE l = eg_row (vs.map tvE) ++ List.replicate (n - (eg_row (vs.map tvE)).length) none
  | [], n, k, h => by
    obtain ⟨l, e, e2⟩ := row_nil n k h
    exact ⟨l, e, by simp [eg_row], by rw [e2]; simp [eg_row]⟩
  | v :: r, 0, k, h => by
    rcases v with (x | x) | x <;> exact h.elim
  | .inl (.inr x) :: r, 1, k, h => h.elim
  | .inl (.inr x) :: r, m + 2, k, h => by
    obtain ⟨l, e, e1, e2⟩ := argk_ok r m _ h
    have e3 : eg_row ((.inl (.inr x) :: r : List TV).map tvE) = some (tvE (tj x)) :: none :: eg_row (r.map tvE) := rfl
    refine ⟨_, e, by rw [e3]; simp only [List.length_cons]; omega, ?_⟩
    rw [e3]
    simp only [List.map_cons, List.length_cons, List.cons_append, Nat.add_sub_add_right, Option.map_some, Option.map_none]
    exact congrArg (fun z => some (tvE (tj x)) :: none :: z) e2
  | .inl (.inl x) :: r, n + 1, k, h => by
    obtain ⟨l, e, e1, e2⟩ := argk_ok r n _ h
    have e3 : eg_row ((.inl (.inl x) :: r : List TV).map tvE) = some (tvE (ti x)) :: eg_row (r.map tvE) := rfl
    refine ⟨_, e, by rw [e3]; simp only [List.length_cons]; omega, ?_⟩
    rw [e3]
    simp only [List.map_cons, List.length_cons, List.cons_append, Nat.add_sub_add_right, Option.map_some]
    exact congrArg (fun z => _ :: z) e2
  | .inr x :: r, n + 1, k, h => by
    obtain ⟨l, e, e1, e2⟩ := argk_ok r n _ h
    have e3 : eg_row ((.inr x :: r : List TV).map tvE) = some (tvE (.inr x)) :: eg_row (r.map tvE) := by rcases x with (x | x) | x <;> rfl
    refine ⟨_, e, by rw [e3]; simp only [List.length_cons]; omega, ?_⟩
    rw [e3]
    simp only [List.map_cons, List.length_cons, List.cons_append, Nat.add_sub_add_right, Option.map_some]
    exact congrArg (fun z => _ :: z) e2
theorem fm_Y.go {j : Nat} {b : FC} (hj : mt j = some D) (hb : fm_S d D K 0 b) (vs : List TV) (k : argk vs D.2.2.1 (fun l => b l [] h)) : fm_Y (d + 1) j (vs.map tvE) h K := by
  obtain ⟨l, e, e1, e2⟩ := argk_ok vs _ _ k
  refine eg_Y.of hj (la := lE l) ?_ (hb _ _ _ e)
  unfold eg_in0
  rw [if_pos e1, e2]
end HSND
