/-! THE FLAT MACHINE, part 3: what instructions ask is enough -/
section OSND
variable {d : Nat} {D : eg_D} {K : Option TV → FH → Prop} {pc : Nat} {c c2 : FC} {l : FL} {st st2 : List TV} {h h2 : FH}
theorem s_p (pc2 : Nat) {i : Instr} {n : Nat} (hM : D.2.2.2.2.1 pc = some (i, n)) (hn : n = eg_pl i) (hpc : pc + n = pc2) (he : eg_p i (st.map tvE) = some (st2.map tvE)) (k : fm_X d D pc2 l st2 h K) : fm_X d D pc l st h K := g_p pc2 hM he hn hpc k
theorem s_v (pc2 : Nat) {i : Instr} {n : Nat} {l2 : FL} (hM : D.2.2.2.2.1 pc = some (i, n)) (hn : n = eg_vl i) (hpc : pc + n = pc2) (he : eg_v i (lE l) (st.map tvE) = some (lE l2, st2.map tvE)) (k : fm_X d D pc2 l2 st2 h K) : fm_X d D pc l st h K := g_v pc2 (lE l2) hM he hn hpc k
theorem s_h (pc2 : Nat) {i : Instr} {n : Nat} (hM : D.2.2.2.2.1 pc = some (i, n)) (hn : n = eg_hl i) (hpc : pc + n = pc2) (he : eg_h cl kY 3 D.2.2.2.2.2 i (st.map tvE) (fm_E h) = some (st2.map tvE, fm_E h2)) (k : fm_X d D pc2 l st2 h2 K) : fm_X d D pc l st h K := g_h pc2 hM he hn hpc k
theorem s_b (pc2 : Nat) {i : Instr} {n : Nat} (hM : D.2.2.2.2.1 pc = some (i, n)) (hn : eg_bl i n = true) (he : eg_b 3 pc i (st.map tvE) = some (pc2, st2.map tvE)) (k : fm_X d D pc2 l st2 h K) : fm_X d D pc l st h K := g_b pc2 hM he hn k
/-! stack -/
theorem vld_ok {t : Value → Bool} {j : Nat} {v : TV} (hg : gl l j = some v) (ht : t (tvE v) = true) : eg_vld t (lE l) j (st.map tvE) = some (lE l, (v :: st).map tvE) := by
  unfold eg_vld
  rw [gl_ok l j v hg]
  dsimp only
  rw [if_pos ht]
  rfl
theorem o_il_ok (pc2 : Nat) {i : Instr} {n j : Nat} (hM : D.2.2.2.2.1 pc = some (i, n)) (hi : ∀ l st, eg_v i l st = eg_vld eg_isI l j st) (hn : n = eg_vl i) (hp : pc + n = pc2) (hc : fm_S d D K pc2 c) : fm_S d D K pc (o_il j c) := by
  intro l st h q
  unfold o_il at q
  split at q
  · next x hg =>
    exact s_v pc2 hM hn hp (by exact (hi _ _).trans (vld_ok hg rfl)) (hc _ _ _ q)
  · exact q.elim
theorem o_ll_ok (pc2 : Nat) {i : Instr} {n j : Nat} (hM : D.2.2.2.2.1 pc = some (i, n)) (hi : ∀ l st, eg_v i l st = eg_vld eg_isJ l j st) (hn : n = eg_vl i) (hp : pc + n = pc2) (hc : fm_S d D K pc2 c) : fm_S d D K pc (o_ll j c) := by
  intro l st h q
  unfold o_ll at q
  split at q
  · next x hg =>
    exact s_v pc2 hM hn hp (by exact (hi _ _).trans (vld_ok hg rfl)) (hc _ _ _ q)
  · exact q.elim
theorem isA_r (x : (Nat ⊕ Nat) ⊕ Unit) : eg_isA (tvE (.inr x)) = true := by rcases x with (x | x) | x <;> rfl
theorem o_al_ok (pc2 : Nat) {i : Instr} {n j : Nat} (hM : D.2.2.2.2.1 pc = some (i, n)) (hi : ∀ l st, eg_v i l st = eg_vld eg_isA l j st) (hn : n = eg_vl i) (hp : pc + n = pc2) (hc : fm_S d D K pc2 c) : fm_S d D K pc (o_al j c) := by
  intro l st h q
  unfold o_al at q
  split at q
  · next x hg =>
    exact s_v pc2 hM hn hp (by exact (hi _ _).trans (vld_ok hg (isA_r x))) (hc _ _ _ q)
  · exact q.elim
theorem vst_ok {t : Value → Bool} {j : Nat} {v : TV} {l2 : FL} {r : List TV} (hv : eg_put (lE l) j (tvE v) = some (lE l2)) (ht : t (tvE v) = true) : eg_vst t (lE l) j ((v :: r).map tvE) = some (lE l2, r.map tvE) := by
  simp only [eg_vst, List.map_cons]
  rw [if_pos ht, hv]
theorem o_is_ok (pc2 : Nat) {i : Instr} {n j : Nat} (hM : D.2.2.2.2.1 pc = some (i, n)) (hi : ∀ l st, eg_v i l st = eg_vst eg_isI l j st) (hn : n = eg_vl i) (hp : pc + n = pc2) (hc : fm_S d D K pc2 c) : fm_S d D K pc (o_is j c) := by
  intro l st h q
  unfold o_is at q
  split at q
  · next x r =>
    obtain ⟨l2, q2, e⟩ := slk_ok l j (ti x) _ rfl q
    exact s_v pc2 hM hn hp (by exact (hi _ _).trans (vst_ok (t := eg_isI) e rfl)) (hc _ _ _ q2)
  · exact q.elim
theorem o_ls_ok (pc2 : Nat) {i : Instr} {n j : Nat} (hM : D.2.2.2.2.1 pc = some (i, n)) (hi : ∀ l st, eg_v i l st = eg_vst eg_isJ l j st) (hn : n = eg_vl i) (hp : pc + n = pc2) (hc : fm_S d D K pc2 c) : fm_S d D K pc (o_ls j c) := by
  intro l st h q
  unfold o_ls at q
  split at q
  · next x r =>
    obtain ⟨l2, q2, e⟩ := lsk_ok l j (tj x) _ rfl q
    exact s_v pc2 hM hn hp (by exact (hi _ _).trans (vst_ok (t := eg_isJ) e rfl)) (hc _ _ _ q2)
  · exact q.elim
theorem o_as_ok (pc2 : Nat) {i : Instr} {n j : Nat} (hM : D.2.2.2.2.1 pc = some (i, n)) (hi : ∀ l st, eg_v i l st = eg_vst eg_isA l j st) (hn : n = eg_vl i) (hp : pc + n = pc2) (hc : fm_S d D K pc2 c) : fm_S d D K pc (o_as j c) := by
  intro l st h q
  unfold o_as at q
  split at q
  · next x r =>
    obtain ⟨l2, q2, e⟩ := slk_ok l j (.inr x) _ (by rw [tv_cat]) q
    exact s_v pc2 hM hn hp (by exact (hi _ _).trans (vst_ok (t := eg_isA) e (isA_r x))) (hc _ _ _ q2)
  · exact q.elim
theorem o_inc_ok (pc2 : Nat) {j : Nat} {n : Int} (hM : D.2.2.2.2.1 pc = some (.iinc j n, 3)) (hp : pc + 3 = pc2) (hc : fm_S d D K pc2 c) : fm_S d D K pc (o_inc j n c) := by
  intro l st h q
  unfold o_inc at q
  split at q
  · next x hg =>
    obtain ⟨l2, q2, e⟩ := slk_ok l j (ti (x + n)) _ rfl q
    refine s_v pc2 hM rfl hp ?_ (hc _ _ _ q2)
    show eg_inc (lE l) j n (st.map tvE) = _
    unfold eg_inc
    rw [gl_ok l j _ hg]
    dsimp only [tvE]
    rw [← Int32.ofInt_add]
    have e2 : eg_put (lE l) j (.int (Int32.ofInt (x + n))) = some (lE l2) := e
    rw [e2]
  · exact q.elim
theorem o_iconst_ok (pc2 : Nat) {n : Int} (hM : D.2.2.2.2.1 pc = some (.iconst n, 1)) (hp : pc + 1 = pc2) (hc : fm_S d D K pc2 c) : fm_S d D K pc (o_ic n c) := fun _ _ _ q => s_p pc2 hM rfl hp rfl (hc _ _ _ q)
theorem o_bipush_ok (pc2 : Nat) {n : Int} (hM : D.2.2.2.2.1 pc = some (.bipush n, 2)) (hn : (Int8.ofInt n).toInt32 = Int32.ofInt n) (hp : pc + 2 = pc2) (hc : fm_S d D K pc2 c) : fm_S d D K pc (o_ic n c) := fun _ st _ q => s_p pc2 hM rfl hp (by exact congrArg (fun z => some (Value.int z :: st.map tvE)) hn) (hc _ _ _ q)
theorem o_sipush_ok (pc2 : Nat) {n : Int} (hM : D.2.2.2.2.1 pc = some (.sipush n, 3)) (hn : (Int16.ofInt n).toInt32 = Int32.ofInt n) (hp : pc + 3 = pc2) (hc : fm_S d D K pc2 c) : fm_S d D K pc (o_ic n c) := fun _ st _ q => s_p pc2 hM rfl hp (by exact congrArg (fun z => some (Value.int z :: st.map tvE)) hn) (hc _ _ _ q)
theorem o_lconst_ok (pc2 : Nat) {m : Int} {k : Fin 2} (hM : D.2.2.2.2.1 pc = some (.lconst k, 1)) (hn : Int64.ofNat (k : Nat) = Int64.ofInt m) (hp : pc + 1 = pc2) (hc : fm_S d D K pc2 c) : fm_S d D K pc (o_lc m c) := fun _ st _ q => s_p pc2 hM rfl hp (by exact congrArg (fun z => some (Value.long z :: st.map tvE)) hn) (hc _ _ _ q)
theorem o_nul_ok (pc2 : Nat) (hM : D.2.2.2.2.1 pc = some (.aconst_null, 1)) (hp : pc + 1 = pc2) (hc : fm_S d D K pc2 c) : fm_S d D K pc (o_nul c) := fun _ _ _ q => s_p pc2 hM rfl hp rfl (hc _ _ _ q)
theorem o_ldc_ok (pc2 : Nat) {ix k1 k2 n : Nat} {i : Instr} {m : Int} {w : Int32} (hM : D.2.2.2.2.1 pc = some (i, n)) (hi : (i = .ldc ix ∧ n = 2) ∨ (i = .ldc_w ix ∧ n = 3)) (hP : D.2.2.2.2.2 ix = some (0, k1, k2, .int w)) (hw : w = Int32.ofInt m) (hp : pc + n = pc2) (hc : fm_S d D K pc2 c) : fm_S d D K pc (o_ic m c) := by
  intro l st h q
  subst hw
  exact g_ldc pc2 hM hi hP hp (hc _ _ _ q)
theorem o_ldc2_ok (pc2 : Nat) {ix k1 k2 : Nat} {m : Int} {w : Int64} (hM : D.2.2.2.2.1 pc = some (.ldc2_w ix, 3)) (hP : D.2.2.2.2.2 ix = some (1, k1, k2, .long w)) (hw : w = Int64.ofInt m) (hp : pc + 3 = pc2) (hc : fm_S d D K pc2 c) : fm_S d D K pc (o_lc m c) := by
  intro l st h q
  subst hw
  refine s_h pc2 hM rfl hp ?_ (hc _ _ _ q)
  simp only [eg_h, eg_kk, hP]
  rfl
theorem o_stat_ok (pc2 : Nat) {ix k1 k2 t n : Nat} (hM : D.2.2.2.2.1 pc = some (.getstatic ix, 3)) (hP : D.2.2.2.2.2 ix = some (t, k1, k2, .ref n)) (ht : t = 12 ∨ t = 18) (hp : pc + 3 = pc2) (hc : fm_S d D K pc2 c) : fm_S d D K pc (o_stat n c) := by
  intro l st h q
  refine s_h pc2 hM rfl hp ?_ (hc _ _ _ q)
  simp only [eg_h, eg_ks, hP]
  rw [if_pos ht]
  rfl
theorem o_iadd_ok (pc2 : Nat) (hM : D.2.2.2.2.1 pc = some (.iadd, 1)) (hp : pc + 1 = pc2) (hc : fm_S d D K pc2 c) : fm_S d D K pc (o_iadd c) := by
  intro l st h q
  unfold o_iadd at q
  split at q
  · next y x r => exact s_p pc2 hM rfl hp (by exact congrArg (fun z => some (Value.int z :: r.map tvE)) (Int32.ofInt_add x y).symm) (hc _ _ _ q)
  · exact q.elim
theorem o_isub_ok (pc2 : Nat) (hM : D.2.2.2.2.1 pc = some (.isub, 1)) (hp : pc + 1 = pc2) (hc : fm_S d D K pc2 c) : fm_S d D K pc (o_isub c) := by
  intro l st h q
  unfold o_isub at q
  split at q
  · next y x r => exact s_p pc2 hM rfl hp (by exact congrArg (fun z => some (Value.int z :: r.map tvE)) (Int32.ofInt_sub x y).symm) (hc _ _ _ q)
  · exact q.elim
theorem o_imul_ok (pc2 : Nat) (hM : D.2.2.2.2.1 pc = some (.imul, 1)) (hp : pc + 1 = pc2) (hc : fm_S d D K pc2 c) : fm_S d D K pc (o_imul c) := by
  intro l st h q
  unfold o_imul at q
  split at q
  · next y x r => exact s_p pc2 hM rfl hp (by exact congrArg (fun z => some (Value.int z :: r.map tvE)) (Int32.ofInt_mul x y).symm) (hc _ _ _ q)
  · exact q.elim
theorem o_ineg_ok (pc2 : Nat) (hM : D.2.2.2.2.1 pc = some (.ineg, 1)) (hp : pc + 1 = pc2) (hc : fm_S d D K pc2 c) : fm_S d D K pc (o_ineg c) := by
  intro l st h q
  unfold o_ineg at q
  split at q
  · next x r => exact s_p pc2 hM rfl hp (by exact congrArg (fun z => some (Value.int z :: r.map tvE)) (Int32.ofInt_neg x).symm) (hc _ _ _ q)
  · exact q.elim
theorem o_iand_ok (pc2 : Nat) (hM : D.2.2.2.2.1 pc = some (.iand, 1)) (hp : pc + 1 = pc2) (hc : fm_S d D K pc2 c) : fm_S d D K pc (o_iand c) := by
  intro l st h q
  unfold o_iand at q
  split at q
  · next y x r =>
    obtain ⟨z, e, q⟩ := q
    exact s_p pc2 hM rfl hp (by exact congrArg (fun z => some (Value.int z :: r.map tvE)) e) (hc _ _ _ q)
  · exact q.elim
theorem o_ior_ok (pc2 : Nat) (hM : D.2.2.2.2.1 pc = some (.ior, 1)) (hp : pc + 1 = pc2) (hc : fm_S d D K pc2 c) : fm_S d D K pc (o_ior c) := by
  intro l st h q
  unfold o_ior at q
  split at q
  · next y x r =>
    obtain ⟨z, e, q⟩ := q
    exact s_p pc2 hM rfl hp (by exact congrArg (fun z => some (Value.int z :: r.map tvE)) e) (hc _ _ _ q)
  · exact q.elim
theorem o_land_ok (pc2 : Nat) (hM : D.2.2.2.2.1 pc = some (.land, 1)) (hp : pc + 1 = pc2) (hc : fm_S d D K pc2 c) : fm_S d D K pc (o_land c) := by
  intro l st h q
  unfold o_land at q
  split at q
  · next y x r =>
    obtain ⟨z, e, q⟩ := q
    exact s_p pc2 hM rfl hp (by exact congrArg (fun z => some (Value.long z :: r.map tvE)) e) (hc _ _ _ q)
  · exact q.elim
theorem o_lor_ok (pc2 : Nat) (hM : D.2.2.2.2.1 pc = some (.lor, 1)) (hp : pc + 1 = pc2) (hc : fm_S d D K pc2 c) : fm_S d D K pc (o_lor c) := by
  intro l st h q
  unfold o_lor at q
  split at q
  · next y x r =>
    obtain ⟨z, e, q⟩ := q
    exact s_p pc2 hM rfl hp (by exact congrArg (fun z => some (Value.long z :: r.map tvE)) e) (hc _ _ _ q)
  · exact q.elim
theorem o_lushr_ok (pc2 : Nat) (hM : D.2.2.2.2.1 pc = some (.lushr, 1)) (hp : pc + 1 = pc2) (hc : fm_S d D K pc2 c) : fm_S d D K pc (o_lushr c) := by
  intro l st h q
  unfold o_lushr at q
  split at q
  · next y x r =>
    obtain ⟨z, e, q⟩ := q
    exact s_p pc2 hM rfl hp (by exact congrArg (fun z => some (Value.long z :: r.map tvE)) e) (hc _ _ _ q)
  · exact q.elim
theorem o_ladd_ok (pc2 : Nat) (hM : D.2.2.2.2.1 pc = some (.ladd, 1)) (hp : pc + 1 = pc2) (hc : fm_S d D K pc2 c) : fm_S d D K pc (o_ladd c) := by
  intro l st h q
  unfold o_ladd at q
  split at q
  · next y x r => exact s_p pc2 hM rfl hp (by exact congrArg (fun z => some (Value.long z :: r.map tvE)) (Int64.ofInt_add x y).symm) (hc _ _ _ q)
  · exact q.elim
theorem o_lsub_ok (pc2 : Nat) (hM : D.2.2.2.2.1 pc = some (.lsub, 1)) (hp : pc + 1 = pc2) (hc : fm_S d D K pc2 c) : fm_S d D K pc (o_lsub c) := by
  intro l st h q
  unfold o_lsub at q
  split at q
  · next y x r => exact s_p pc2 hM rfl hp (by exact congrArg (fun z => some (Value.long z :: r.map tvE)) (Int64.ofInt_sub x y).symm) (hc _ _ _ q)
  · exact q.elim
theorem o_lmul_ok (pc2 : Nat) (hM : D.2.2.2.2.1 pc = some (.lmul, 1)) (hp : pc + 1 = pc2) (hc : fm_S d D K pc2 c) : fm_S d D K pc (o_lmul c) := by
  intro l st h q
  unfold o_lmul at q
  split at q
  · next y x r => exact s_p pc2 hM rfl hp (by exact congrArg (fun z => some (Value.long z :: r.map tvE)) (Int64.ofInt_mul x y).symm) (hc _ _ _ q)
  · exact q.elim
theorem o_idiv_ok (pc2 : Nat) (hM : D.2.2.2.2.1 pc = some (.idiv, 1)) (hp : pc + 1 = pc2) (hc : fm_S d D K pc2 c) : fm_S d D K pc (o_idiv c) := by
  intro l st h q
  unfold o_idiv at q
  split at q
  · next y x r =>
    obtain ⟨⟨e1, e2, e3, e4⟩, q⟩ := q
    refine s_p pc2 hM rfl hp ?_ (hc _ _ _ q)
    have hz : ¬ Int32.ofInt y = 0 := by
      intro z
      have := congrArg Int32.toInt z
      rw [i32_of (by omega) e4] at this
      have e5 : (0 : Int32).toInt = 0 := by decide
      omega
    show (if Int32.ofInt y = 0 then none else _) = _
    rw [if_neg hz]
    exact congrArg (fun z => some (Value.int z :: r.map tvE)) (div_i32 e1 e2 e3 e4)
  · exact q.elim
theorem o_irem_ok (pc2 : Nat) (hM : D.2.2.2.2.1 pc = some (.irem, 1)) (hp : pc + 1 = pc2) (hc : fm_S d D K pc2 c) : fm_S d D K pc (o_irem c) := by
  intro l st h q
  unfold o_irem at q
  split at q
  · next y x r =>
    obtain ⟨⟨e1, e2, e3, e4⟩, q⟩ := q
    refine s_p pc2 hM rfl hp ?_ (hc _ _ _ q)
    have hz : ¬ Int32.ofInt y = 0 := by
      intro z
      have := congrArg Int32.toInt z
      rw [i32_of (by omega) e4] at this
      have e5 : (0 : Int32).toInt = 0 := by decide
      omega
    show (if Int32.ofInt y = 0 then none else _) = _
    rw [if_neg hz]
    exact congrArg (fun z => some (Value.int z :: r.map tvE)) (rem_i32 e1 e2 e3 e4)
  · exact q.elim
theorem o_ldiv_ok (pc2 : Nat) (hM : D.2.2.2.2.1 pc = some (.ldiv, 1)) (hp : pc + 1 = pc2) (hc : fm_S d D K pc2 c) : fm_S d D K pc (o_ldiv c) := by
  intro l st h q
  unfold o_ldiv at q
  split at q
  · next y x r =>
    obtain ⟨⟨e1, e2, e3, e4⟩, q⟩ := q
    refine s_p pc2 hM rfl hp ?_ (hc _ _ _ q)
    have hz : ¬ Int64.ofInt y = 0 := by
      intro z
      have := congrArg Int64.toInt z
      rw [i64_of (by omega) e4] at this
      have e5 : (0 : Int64).toInt = 0 := by decide
      omega
    show (if Int64.ofInt y = 0 then none else _) = _
    rw [if_neg hz]
    exact congrArg (fun z => some (Value.long z :: r.map tvE)) (div_i64 e1 e2 e3 e4)
  · exact q.elim
theorem o_lrem_ok (pc2 : Nat) (hM : D.2.2.2.2.1 pc = some (.lrem, 1)) (hp : pc + 1 = pc2) (hc : fm_S d D K pc2 c) : fm_S d D K pc (o_lrem c) := by
  intro l st h q
  unfold o_lrem at q
  split at q
  · next y x r =>
    obtain ⟨⟨e1, e2, e3, e4⟩, q⟩ := q
    refine s_p pc2 hM rfl hp ?_ (hc _ _ _ q)
    have hz : ¬ Int64.ofInt y = 0 := by
      intro z
      have := congrArg Int64.toInt z
      rw [i64_of (by omega) e4] at this
      have e5 : (0 : Int64).toInt = 0 := by decide
      omega
    show (if Int64.ofInt y = 0 then none else _) = _
    rw [if_neg hz]
    exact congrArg (fun z => some (Value.long z :: r.map tvE)) (rem_i64 e1 e2 e3 e4)
  · exact q.elim
theorem o_i2l_ok (pc2 : Nat) (hM : D.2.2.2.2.1 pc = some (.i2l, 1)) (hp : pc + 1 = pc2) (hc : fm_S d D K pc2 c) : fm_S d D K pc (o_i2l c) := by
  intro l st h q
  unfold o_i2l at q
  split at q
  · next x r =>
    obtain ⟨e, q⟩ := q
    exact s_p pc2 hM rfl hp (by exact congrArg (fun z => some (Value.long z :: r.map tvE)) (i32_i2l e.1 e.2)) (hc _ _ _ q)
  · exact q.elim
theorem o_l2i_ok (pc2 : Nat) (hM : D.2.2.2.2.1 pc = some (.l2i, 1)) (hp : pc + 1 = pc2) (hc : fm_S d D K pc2 c) : fm_S d D K pc (o_l2i c) := by
  intro l st h q
  unfold o_l2i at q
  split at q
  · next x r =>
    exact s_p pc2 hM rfl hp (by exact congrArg (fun z => some (Value.int z :: r.map tvE)) (i64_l2i x)) (hc _ _ _ q)
  · exact q.elim
theorem o_i2b_ok (pc2 : Nat) (hM : D.2.2.2.2.1 pc = some (.i2b, 1)) (hp : pc + 1 = pc2) (hc : fm_S d D K pc2 c) : fm_S d D K pc (o_i2b c) := by
  intro l st h q
  unfold o_i2b at q
  split at q
  · next x r =>
    exact s_p pc2 hM rfl hp (by exact congrArg (fun z => some (Value.int z :: r.map tvE)) (i32_i2b x)) (hc _ _ _ q)
  · exact q.elim
theorem o_i2s_ok (pc2 : Nat) (hM : D.2.2.2.2.1 pc = some (.i2s, 1)) (hp : pc + 1 = pc2) (hc : fm_S d D K pc2 c) : fm_S d D K pc (o_i2s c) := by
  intro l st h q
  unfold o_i2s at q
  split at q
  · next x r =>
    exact s_p pc2 hM rfl hp (by exact congrArg (fun z => some (Value.int z :: r.map tvE)) (i32_i2s x)) (hc _ _ _ q)
  · exact q.elim
theorem o_ishl_ok (pc2 : Nat) (hM : D.2.2.2.2.1 pc = some (.ishl, 1)) (hp : pc + 1 = pc2) (hc : fm_S d D K pc2 c) : fm_S d D K pc (o_ishl c) := by
  intro l st h q
  unfold o_ishl at q
  split at q
  · next y x r =>
    obtain ⟨⟨e1, e2⟩, q⟩ := q
    have ey : ((y.toNat : Nat) : Int) = y := Int.toNat_of_nonneg e1
    refine s_p pc2 hM rfl hp ?_ (hc _ _ _ q)
    have e5 := i32_shl (k := y.toNat) (by omega) x
    rw [ey] at e5
    exact congrArg (fun z => some (Value.int z :: r.map tvE)) e5
  · exact q.elim
theorem o_ishr_ok (pc2 : Nat) (hM : D.2.2.2.2.1 pc = some (.ishr, 1)) (hp : pc + 1 = pc2) (hc : fm_S d D K pc2 c) : fm_S d D K pc (o_ishr c) := by
  intro l st h q
  unfold o_ishr at q
  split at q
  · next y x r =>
    obtain ⟨⟨e1, e2, e3, e4⟩, q⟩ := q
    have ey : ((y.toNat : Nat) : Int) = y := Int.toNat_of_nonneg e1
    refine s_p pc2 hM rfl hp ?_ (hc _ _ _ q)
    have e5 := i32_shr (k := y.toNat) (by omega) e3 e4
    rw [ey] at e5
    exact congrArg (fun z => some (Value.int z :: r.map tvE)) e5
  · exact q.elim
theorem o_lshl_ok (pc2 : Nat) (hM : D.2.2.2.2.1 pc = some (.lshl, 1)) (hp : pc + 1 = pc2) (hc : fm_S d D K pc2 c) : fm_S d D K pc (o_lshl c) := by
  intro l st h q
  unfold o_lshl at q
  split at q
  · next y x r =>
    obtain ⟨⟨e1, e2⟩, q⟩ := q
    have ey : ((y.toNat : Nat) : Int) = y := Int.toNat_of_nonneg e1
    refine s_p pc2 hM rfl hp ?_ (hc _ _ _ q)
    have e5 := i64_shl (k := y.toNat) (by omega) x
    rw [ey] at e5
    exact congrArg (fun z => some (Value.long z :: r.map tvE)) e5
  · exact q.elim
theorem o_lshr_ok (pc2 : Nat) (hM : D.2.2.2.2.1 pc = some (.lshr, 1)) (hp : pc + 1 = pc2) (hc : fm_S d D K pc2 c) : fm_S d D K pc (o_lshr c) := by
  intro l st h q
  unfold o_lshr at q
  split at q
  · next y x r =>
    obtain ⟨⟨e1, e2, e3, e4⟩, q⟩ := q
    have ey : ((y.toNat : Nat) : Int) = y := Int.toNat_of_nonneg e1
    refine s_p pc2 hM rfl hp ?_ (hc _ _ _ q)
    have e5 := i64_shr (k := y.toNat) (by omega) e3 e4
    rw [ey] at e5
    exact congrArg (fun z => some (Value.long z :: r.map tvE)) e5
  · exact q.elim
/-! two instructions: a number, and what is done by it -/
theorem s_push {pcm : Nat} {m : Int} (hpush : ∀ c2 : FC, fm_S d D K pcm c2 → fm_S d D K pc (o_ic m c2)) (k : fm_X d D pcm l (ti m :: st) h K) : fm_X d D pc l st h K :=
  hpush (fun l2 st2 h2 => l2 = l ∧ st2 = ti m :: st ∧ h2 = h) (fun l2 st2 h2 e => by
    obtain ⟨e1, e2, e3⟩ := e
    subst e1 e2 e3
    exact k) l st h ⟨rfl, rfl, rfl⟩
theorem s_pushl {pcm : Nat} {m : Int} (hpush : ∀ c2 : FC, fm_S d D K pcm c2 → fm_S d D K pc (o_lc m c2)) (k : fm_X d D pcm l (tj m :: st) h K) : fm_X d D pc l st h K :=
  hpush (fun l2 st2 h2 => l2 = l ∧ st2 = tj m :: st ∧ h2 = h) (fun l2 st2 h2 e => by
    obtain ⟨e1, e2, e3⟩ := e
    subst e1 e2 e3
    exact k) l st h ⟨rfl, rfl, rfl⟩
theorem o_imask_ok (pcm pc2 k : Nat) {m w : Int} (hk : k ≤ 32) (hm : m = 2 ^ k - 1) (hw : w = 2 ^ k) (hpush : ∀ c2 : FC, fm_S d D K pcm c2 → fm_S d D K pc (o_ic m c2)) (hM : D.2.2.2.2.1 pcm = some (.iand, 1)) (hp : pcm + 1 = pc2) (hc : fm_S d D K pc2 c) : fm_S d D K pc (o_imask w c) := by
  intro l st h q
  unfold o_imask at q
  split at q
  · next x r =>
    refine s_push hpush (s_p pc2 hM rfl hp ?_ (hc _ _ _ q))
    exact congrArg (fun z => some (Value.int z :: r.map tvE)) (i32_mask hk x hm hw)
  · exact q.elim
theorem o_lmask_ok (pcm pc2 k : Nat) {m w : Int} (hk : k ≤ 64) (hm : m = 2 ^ k - 1) (hw : w = 2 ^ k) (hpush : ∀ c2 : FC, fm_S d D K pcm c2 → fm_S d D K pc (o_lc m c2)) (hM : D.2.2.2.2.1 pcm = some (.land, 1)) (hp : pcm + 1 = pc2) (hc : fm_S d D K pc2 c) : fm_S d D K pc (o_lmask w c) := by
  intro l st h q
  unfold o_lmask at q
  split at q
  · next x r =>
    refine s_pushl hpush (s_p pc2 hM rfl hp ?_ (hc _ _ _ q))
    exact congrArg (fun z => some (Value.long z :: r.map tvE)) (i64_mask hk x hm hw)
  · exact q.elim
theorem o_ishlc_ok (pcm pc2 k : Nat) {m w : Int} (hk : k < 32) (hm : m = (k : Int)) (hw : w = 2 ^ k) (hpush : ∀ c2 : FC, fm_S d D K pcm c2 → fm_S d D K pc (o_ic m c2)) (hM : D.2.2.2.2.1 pcm = some (.ishl, 1)) (hp : pcm + 1 = pc2) (hc : fm_S d D K pc2 c) : fm_S d D K pc (o_ishlc w c) := by
  intro l st h q
  unfold o_ishlc at q
  split at q
  · next x r =>
    refine s_push hpush (s_p pc2 hM rfl hp ?_ (hc _ _ _ q))
    exact congrArg (fun z => some (Value.int z :: r.map tvE)) (by subst hm hw; exact i32_shl hk x)
  · exact q.elim
theorem o_ishrc_ok (pcm pc2 k : Nat) {m w : Int} (hk : k < 32) (hm : m = (k : Int)) (hw : w = 2 ^ k) (hpush : ∀ c2 : FC, fm_S d D K pcm c2 → fm_S d D K pc (o_ic m c2)) (hM : D.2.2.2.2.1 pcm = some (.ishr, 1)) (hp : pcm + 1 = pc2) (hc : fm_S d D K pc2 c) : fm_S d D K pc (o_ishrc w c) := by
  intro l st h q
  unfold o_ishrc at q
  split at q
  · next x r =>
    obtain ⟨e, q⟩ := q
    refine s_push hpush (s_p pc2 hM rfl hp ?_ (hc _ _ _ q))
    exact congrArg (fun z => some (Value.int z :: r.map tvE)) (by subst hm hw; exact i32_shr hk e.1 e.2)
  · exact q.elim
theorem o_iushrc_ok (pcm pc2 k : Nat) {m w : Int} (hk : k < 32) (h0 : 0 < k) (hm : m = (k : Int)) (hw : w = 2 ^ k) (hpush : ∀ c2 : FC, fm_S d D K pcm c2 → fm_S d D K pc (o_ic m c2)) (hM : D.2.2.2.2.1 pcm = some (.iushr, 1)) (hp : pcm + 1 = pc2) (hc : fm_S d D K pc2 c) : fm_S d D K pc (o_iushrc w c) := by
  intro l st h q
  unfold o_iushrc at q
  split at q
  · next x r =>
    refine s_push hpush (s_p pc2 hM rfl hp ?_ (hc _ _ _ q))
    exact congrArg (fun z => some (Value.int z :: r.map tvE)) (by subst hm hw; exact i32_ushr hk h0 x)
  · exact q.elim
theorem o_lshlc_ok (pcm pc2 k : Nat) {m w : Int} (hk : k < 64) (hm : m = (k : Int)) (hw : w = 2 ^ k) (hpush : ∀ c2 : FC, fm_S d D K pcm c2 → fm_S d D K pc (o_ic m c2)) (hM : D.2.2.2.2.1 pcm = some (.lshl, 1)) (hp : pcm + 1 = pc2) (hc : fm_S d D K pc2 c) : fm_S d D K pc (o_lshlc w c) := by
  intro l st h q
  unfold o_lshlc at q
  split at q
  · next x r =>
    refine s_push hpush (s_p pc2 hM rfl hp ?_ (hc _ _ _ q))
    exact congrArg (fun z => some (Value.long z :: r.map tvE)) (by subst hm hw; exact i64_shl hk x)
  · exact q.elim
theorem o_lshrc_ok (pcm pc2 k : Nat) {m w : Int} (hk : k < 64) (hm : m = (k : Int)) (hw : w = 2 ^ k) (hpush : ∀ c2 : FC, fm_S d D K pcm c2 → fm_S d D K pc (o_ic m c2)) (hM : D.2.2.2.2.1 pcm = some (.lshr, 1)) (hp : pcm + 1 = pc2) (hc : fm_S d D K pc2 c) : fm_S d D K pc (o_lshrc w c) := by
  intro l st h q
  unfold o_lshrc at q
  split at q
  · next x r =>
    obtain ⟨e, q⟩ := q
    refine s_push hpush (s_p pc2 hM rfl hp ?_ (hc _ _ _ q))
    exact congrArg (fun z => some (Value.long z :: r.map tvE)) (by subst hm hw; exact i64_shr hk e.1 e.2)
  · exact q.elim
theorem o_dup_ok (pc2 : Nat) (hM : D.2.2.2.2.1 pc = some (.dup, 1)) (hp : pc + 1 = pc2) (hc : fm_S d D K pc2 c) : fm_S d D K pc (o_dup c) := by
  intro l st h q
  unfold o_dup at q
  split at q
  · next x r => exact s_p pc2 hM rfl hp rfl (hc _ _ _ q)
  · next x r =>
    refine s_p pc2 hM rfl hp ?_ (hc _ _ _ q)
    show eg_d1 (tvE (.inr x) :: r.map tvE) = _
    unfold eg_d1
    dsimp only
    rw [if_pos (tv_cat (.inr x))]
    rfl
  · exact q.elim
theorem o_dup2_ok (pc2 : Nat) (hM : D.2.2.2.2.1 pc = some (.dup2, 1)) (hp : pc + 1 = pc2) (hc : fm_S d D K pc2 c) : fm_S d D K pc (o_dup2 c) := by
  intro l st h q
  unfold o_dup2 at q
  split at q
  · next x y r =>
    refine s_p pc2 hM rfl hp ?_ (hc _ _ _ q)
    show eg_d2 (tvE (ti x) :: tvE (.inr y) :: r.map tvE) = _
    unfold eg_d2
    dsimp only
    rw [if_neg (show ¬ (tvE (ti x)).category = 2 from fun e => by cases e), if_pos (tv_cat (.inr y))]
    rfl
  · exact q.elim
theorem o_pop_ok (pc2 : Nat) (hM : D.2.2.2.2.1 pc = some (.pop, 1)) (hp : pc + 1 = pc2) (hc : fm_S d D K pc2 c) : fm_S d D K pc (o_pop c) := by
  intro l st h q
  unfold o_pop at q
  split at q
  · next x r => exact s_p pc2 hM rfl hp rfl (hc _ _ _ q)
  · next x r =>
    refine s_p pc2 hM rfl hp ?_ (hc _ _ _ q)
    show eg_p1 (tvE (.inr x) :: r.map tvE) = _
    unfold eg_p1
    dsimp only
    rw [if_pos (tv_cat (.inr x))]
  · exact q.elim
/-! branches -/
theorem bc_i {q : ClassFile.Cond} {x y : Int32} {P Q : Prop} (b : bc q x.toInt y.toInt P Q) : (eg_cnd q x y = true → P) ∧ (eg_cnd q x y = false → Q) := by
  cases q with
  | eq => exact ⟨fun e => b.1 (congrArg _ (of_decide_eq_true e)), fun e => b.2 (fun z => of_decide_eq_false e (Int32.toInt_inj.1 z))⟩
  | ne => exact ⟨fun e => b.1 (fun z => of_decide_eq_true e (Int32.toInt_inj.1 z)), fun e => b.2 (congrArg _ (Decidable.not_not.1 (of_decide_eq_false e)))⟩
  | lt => exact ⟨fun e => b.1 (Int32.lt_iff_toInt_lt.1 (of_decide_eq_true e)), fun e => b.2 (by have := of_decide_eq_false e; rw [Int32.lt_iff_toInt_lt] at this; omega)⟩
  | ge => exact ⟨fun e => b.1 (Int32.le_iff_toInt_le.1 (of_decide_eq_true e)), fun e => b.2 (by have := of_decide_eq_false e; rw [Int32.le_iff_toInt_le] at this; omega)⟩
  | gt => exact ⟨fun e => b.1 (Int32.lt_iff_toInt_lt.1 (of_decide_eq_true e)), fun e => b.2 (by have := of_decide_eq_false e; rw [Int32.lt_iff_toInt_lt] at this; omega)⟩
  | le => exact ⟨fun e => b.1 (Int32.le_iff_toInt_le.1 (of_decide_eq_true e)), fun e => b.2 (by have := of_decide_eq_false e; rw [Int32.le_iff_toInt_le] at this; omega)⟩
theorem o_icmp_ok (tgt pc2 : Nat) {q : ClassFile.Cond} {off : Int} (hM : D.2.2.2.2.1 pc = some (.if_icmp q off, 3)) (ht : (pc : Int) + off = (tgt : Int)) (hp : pc + 3 = pc2) (hc : fm_S d D K tgt c) (hc2 : fm_S d D K pc2 c2) : fm_S d D K pc (o_icmp q c c2) := by
  intro l st h z
  unfold o_icmp at z
  split at z
  · next y x r =>
    obtain ⟨⟨e1, e2, e3, e4⟩, b⟩ := z
    have b2 : bc q (Int32.ofInt x).toInt (Int32.ofInt y).toInt (c l r h) (c2 l r h) := by rw [i32_of e1 e2, i32_of e3 e4]; exact b
    obtain ⟨b3, b4⟩ := bc_i b2
    exact g_icmp tgt pc2 hM ht hp (fun e => hc _ _ _ (b3 e)) (fun e => hc2 _ _ _ (b4 e))
  · exact z.elim
theorem o_if_ok (tgt pc2 : Nat) {q : ClassFile.Cond} {off : Int} (hM : D.2.2.2.2.1 pc = some (.ifCond q off, 3)) (ht : (pc : Int) + off = (tgt : Int)) (hp : pc + 3 = pc2) (hc : fm_S d D K tgt c) (hc2 : fm_S d D K pc2 c2) : fm_S d D K pc (o_if q c c2) := by
  intro l st h z
  unfold o_if at z
  split at z
  · next x r =>
    obtain ⟨⟨e1, e2⟩, b⟩ := z
    have e0 : (0 : Int32).toInt = 0 := by decide
    have b2 : bc q (Int32.ofInt x).toInt (0 : Int32).toInt (c l r h) (c2 l r h) := by rw [i32_of e1 e2, e0]; exact b
    obtain ⟨b3, b4⟩ := bc_i b2
    exact g_if tgt pc2 hM ht hp (fun e => hc _ _ _ (b3 e)) (fun e => hc2 _ _ _ (b4 e))
  · exact z.elim
theorem lg_cmpI (x y : Int64) : (lg_cmp x y).toInt = if x.toInt < y.toInt then -1 else if x.toInt = y.toInt then 0 else 1 := by
  unfold lg_cmp
  by_cases h1 : x.toInt < y.toInt
  · rw [if_neg (fun q => by have := Int64.lt_iff_toInt_lt.1 q; omega), if_neg (fun q => by rw [q] at h1; omega), if_pos h1]
    decide
  · rw [if_neg h1]
    by_cases h2 : x.toInt = y.toInt
    · rw [if_neg (fun q => by have := Int64.lt_iff_toInt_lt.1 q; omega), if_pos (Int64.toInt_inj.1 h2), if_pos h2]
      decide
    · rw [if_pos (show x > y from Int64.lt_iff_toInt_lt.2 (by omega)), if_neg h2]
      decide
theorem bc_l {q : ClassFile.Cond} {x y z : Int} {P Q : Prop} (hz : z = if x < y then -1 else if x = y then 0 else 1) (b : bc q x y P Q) : bc q z 0 P Q := by
  cases q with
  | eq => exact ⟨fun e => b.1 (by split at hz <;> (try split at hz) <;> omega), fun e => b.2 (by split at hz <;> (try split at hz) <;> omega)⟩
  | ne => exact ⟨fun e => b.1 (by split at hz <;> (try split at hz) <;> omega), fun e => b.2 (by split at hz <;> (try split at hz) <;> omega)⟩
  | lt => exact ⟨fun e => b.1 (by split at hz <;> (try split at hz) <;> omega), fun e => b.2 (by split at hz <;> (try split at hz) <;> omega)⟩
  | ge => exact ⟨fun e => b.1 (by split at hz <;> (try split at hz) <;> omega), fun e => b.2 (by split at hz <;> (try split at hz) <;> omega)⟩
  | gt => exact ⟨fun e => b.1 (by split at hz <;> (try split at hz) <;> omega), fun e => b.2 (by split at hz <;> (try split at hz) <;> omega)⟩
  | le => exact ⟨fun e => b.1 (by split at hz <;> (try split at hz) <;> omega), fun e => b.2 (by split at hz <;> (try split at hz) <;> omega)⟩
theorem o_lcmp_ok (pcm tgt pc2 : Nat) {q : ClassFile.Cond} {off : Int} (hM0 : D.2.2.2.2.1 pc = some (.lcmp, 1)) (hp0 : pc + 1 = pcm) (hM : D.2.2.2.2.1 pcm = some (.ifCond q off, 3)) (ht : (pcm : Int) + off = (tgt : Int)) (hp : pcm + 3 = pc2) (hc : fm_S d D K tgt c) (hc2 : fm_S d D K pc2 c2) : fm_S d D K pc (o_lcmp q c c2) := by
  intro l st h z
  unfold o_lcmp at z
  split at z
  · next y x r =>
    obtain ⟨⟨e1, e2, e3, e4⟩, b⟩ := z
    have hz := lg_cmpI (Int64.ofInt x) (Int64.ofInt y)
    rw [i64_of e1 e2, i64_of e3 e4] at hz
    have b1 := bc_l hz b
    have e0 : (0 : Int32).toInt = 0 := by decide
    have b2 : bc q (lg_cmp (Int64.ofInt x) (Int64.ofInt y)).toInt (0 : Int32).toInt (c l r h) (c2 l r h) := by rw [e0]; exact b1
    obtain ⟨b3, b4⟩ := bc_i b2
    refine g_p pcm hM0 rfl rfl hp0 ?_
    exact g_if tgt pc2 hM ht hp (fun e => hc _ _ _ (b3 e)) (fun e => hc2 _ _ _ (b4 e))
  · exact z.elim
theorem o_goto_ok (tgt : Nat) {off : Int} (hM : D.2.2.2.2.1 pc = some (.goto off, 3)) (ht : (pc : Int) + off = (tgt : Int)) (hc : fm_S d D K tgt c) : fm_S d D K pc c := by
  intro l st h z
  refine s_b tgt hM rfl ?_ (hc _ _ _ z)
  show eg_j pc off (st.map tvE) = _
  unfold eg_j
  rw [if_pos (by omega), ht]
  rfl
theorem o_ifnull_ok (tgt pc2 : Nat) {off : Int} (hM : D.2.2.2.2.1 pc = some (.ifnull off, 3)) (ht : (pc : Int) + off = (tgt : Int)) (hp : pc + 3 = pc2) (hc : fm_S d D K tgt c) (hc2 : fm_S d D K pc2 c2) : fm_S d D K pc (o_ifnull c c2) := by
  intro l st h z
  unfold o_ifnull at z
  subst hp
  split at z
  · next r =>
    refine s_b tgt hM rfl ?_ (hc _ _ _ z)
    show eg_j pc off (r.map tvE) = _
    unfold eg_j
    rw [if_pos (by omega), ht]
    rfl
  · next a r =>
    refine s_b (pc + 3) hM rfl ?_ (hc2 _ _ _ z)
    rcases a with a | a <;> rfl
  · exact z.elim
theorem o_ifnonnull_ok (tgt pc2 : Nat) {off : Int} (hM : D.2.2.2.2.1 pc = some (.ifnonnull off, 3)) (ht : (pc : Int) + off = (tgt : Int)) (hp : pc + 3 = pc2) (hc : fm_S d D K tgt c) (hc2 : fm_S d D K pc2 c2) : fm_S d D K pc (o_ifnull c2 c) := by
  intro l st h z
  unfold o_ifnull at z
  subst hp
  split at z
  · next r => exact s_b (pc + 3) hM rfl rfl (hc2 _ _ _ z)
  · next a r =>
    refine s_b tgt hM rfl ?_ (hc _ _ _ z)
    have e : eg_j pc off (r.map tvE) = some (tgt, r.map tvE) := by
      unfold eg_j
      rw [if_pos (by omega), ht]
      rfl
    rcases a with a | a <;> exact e
  · exact z.elim
theorem tvE_nm (a : Nat ⊕ Nat) : tvE (.inr (.inl a)) = .ref (nm a) := by rcases a with a | a <;> rfl
theorem acmp_b {x y : Nat} {off : Int} {tgt : Nat} {r : List Value} (q : ClassFile.ACond) (hx : 3 ≤ x) (hy : 3 ≤ y) (ht : (pc : Int) + off = (tgt : Int)) : eg_b 3 pc (.if_acmp q off) (.ref y :: .ref x :: r) = some (if eg_acnd q (some x) (some y) = true then tgt else pc + 3, r) := by
  simp only [eg_b, eg_an]
  rw [if_pos hx, if_pos hy]
  dsimp only
  unfold eg_if
  rw [if_pos (by omega), ht]
  rfl
theorem o_acmpeq_ok (tgt pc2 : Nat) {off : Int} (hM : D.2.2.2.2.1 pc = some (.if_acmp .eq off, 3)) (ht : (pc : Int) + off = (tgt : Int)) (hp : pc + 3 = pc2) (hc : fm_S d D K tgt c) (hc2 : fm_S d D K pc2 c2) : fm_S d D K pc (o_acmpeq c c2) := by
  intro l st h z
  unfold o_acmpeq at z
  subst hp
  split at z
  · next b a r =>
    rw [nmk_eq, nmk_eq] at z
    obtain ⟨⟨e1, e2⟩, z1, z2⟩ := z
    have e := acmp_b (pc := pc) (r := r.map tvE) .eq e1 e2 ht
    by_cases hq : nm a = nm b
    · refine s_b tgt hM rfl ?_ (hc _ _ _ (z1 hq))
      simp only [List.map_cons, tvE_nm]
      rw [e, if_pos (by simp [eg_acnd, hq])]
    · refine s_b (pc + 3) hM rfl ?_ (hc2 _ _ _ (z2 hq))
      simp only [List.map_cons, tvE_nm]
      rw [e, if_neg (by simp [eg_acnd, hq])]
  · exact z.elim
theorem o_acmpne_ok (tgt pc2 : Nat) {off : Int} (hM : D.2.2.2.2.1 pc = some (.if_acmp .ne off, 3)) (ht : (pc : Int) + off = (tgt : Int)) (hp : pc + 3 = pc2) (hc : fm_S d D K tgt c) (hc2 : fm_S d D K pc2 c2) : fm_S d D K pc (o_acmpeq c2 c) := by
  intro l st h z
  unfold o_acmpeq at z
  subst hp
  split at z
  · next b a r =>
    rw [nmk_eq, nmk_eq] at z
    obtain ⟨⟨e1, e2⟩, z1, z2⟩ := z
    have e := acmp_b (pc := pc) (r := r.map tvE) .ne e1 e2 ht
    by_cases hq : nm a = nm b
    · refine s_b (pc + 3) hM rfl ?_ (hc2 _ _ _ (z1 hq))
      simp only [List.map_cons, tvE_nm]
      rw [e, if_neg (by simp [eg_acnd, hq])]
    · refine s_b tgt hM rfl ?_ (hc _ _ _ (z2 hq))
      simp only [List.map_cons, tvE_nm]
      rw [e, if_pos (by simp [eg_acnd, hq])]
  · exact z.elim
/-- where a switch leads -/
def swt (x : Int) (dt : Nat) : List (Int × Nat × FC) → Nat
  | [] => dt
  | q :: r => if x = q.1 then q.2.1 else swt x dt r
theorem o_sw_ok {i : Instr} {n : Nat} (hM : D.2.2.2.2.1 pc = some (i, n)) (hn : eg_bl i n = true) (cs : List (Int × Nat × FC)) (dt : Nat) (df : FC) (hb : ∀ (x : Int) (r : List Value), -2147483648 ≤ x → x ≤ 2147483647 → eg_b 3 pc i (.int (Int32.ofInt x) :: r) = some (swt x dt cs, r)) (hc : ∀ q ∈ cs, fm_S d D K q.2.1 q.2.2) (hd : fm_S d D K dt df) : fm_S d D K pc (o_sw cs df) := by
  intro l st h z
  unfold o_sw at z
  split at z
  · next x r =>
    obtain ⟨⟨e1, e2⟩, z⟩ := z
    refine s_b (swt x dt cs) hM hn (hb x _ e1 e2) ?_
    clear hb
    induction cs with
    | nil => exact hd _ _ _ z
    | cons q cs ih =>
      have z2 : (x = q.1 → q.2.2 l r h) ∧ (x ≠ q.1 → swk x (df l r h) (cs.map fun q => (q.1, q.2.2 l r h))) := z
      show fm_X d D (if x = q.1 then q.2.1 else swt x dt cs) l r h K
      by_cases e : x = q.1
      · rw [if_pos e]
        exact hc q List.mem_cons_self _ _ _ (z2.1 e)
      · rw [if_neg e]
        exact ih (fun q hq => hc q (List.mem_cons_of_mem _ hq)) (z2.2 e)
  · exact z.elim
end OSND
