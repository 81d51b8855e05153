/-! THE PURE MACHINE, part 9: runs and contracts -/
theorem eg_v_len {i : Instr} {la lb : eg_L} {st st2 : List Value} (h : eg_v i la st = some (lb, st2)) : lb.length = la.length := by
  cases i <;> (try (exact eg_no h))
  all_goals simp only [eg_v, eg_vld, eg_vst, eg_inc] at h
  all_goals ((repeat' split at h) <;> first | (cases h; rfl) | (cases h; exact eg_put_len (by assumption)) | cases h)
theorem eg_row_at (ad : Nat → Nat) : ∀ (as : List Value) (i k : Nat) (v : Value), (eg_row as)[k]? = some (some v) → (i + k, eg_cv ad v) ∈ lv_args i (as.map (eg_cv ad))
  | [], i, k, v, h => by simp [eg_row] at h
  | a :: as, i, k, v, h => by
    have ih := eg_row_at ad as
    simp only [eg_row, List.flatMap_cons] at h ih
    simp only [List.map_cons, lv_args, eg_cv_cat]
    by_cases h2 : a.category = 2
    · rw [if_pos h2] at h ⊢
      match k, h with
      | 0, h => simp at h; subst h; exact List.mem_cons_self
      | 1, h => simp at h
      | k + 2, h =>
        have h3 := ih (i + 2) k v (by simpa using h)
        refine List.mem_cons_of_mem _ ?_
        rw [show i + (k + 2) = i + 2 + k by omega]
        exact h3
    · rw [if_neg h2] at h ⊢
      match k, h with
      | 0, h => simp at h; subst h; exact List.mem_cons_self
      | k + 1, h =>
        have h3 := ih (i + 1) k v (by simpa using h)
        refine List.mem_cons_of_mem _ ?_
        rw [show i + (k + 1) = i + 1 + k by omega]
        exact h3
theorem eg_row_len (ad : Nat → Nat) : ∀ as : List Value, (lg_sl (as.map (eg_cv ad))).length = (eg_row as).length
  | [] => rfl
  | a :: as => by
    have ih := eg_row_len ad as
    simp only [lg_sl, eg_row, List.map_cons, List.flatMap_cons, List.length_append, eg_cv_cat] at ih ⊢
    rw [ih]
    by_cases h2 : a.category = 2
    · simp [h2]
    · simp [h2]
theorem eg_in0_ok {ad : Nat → Nat} {as : List Value} {n : Nat} {la : eg_L} (h : eg_in0 as n = some la) : eg_lr ad ((lg_sl (as.map (eg_cv ad)) ++ List.replicate (n - (lg_sl (as.map (eg_cv ad))).length) Slot.unset).toArray) la ∧ la.length = n := by
  unfold eg_in0 at h
  split at h
  · next hn =>
    cases h
    have hl := lv_entry (as.map (eg_cv ad)) (n := n) (by rw [eg_row_len]; exact hn)
    refine ⟨⟨?_, hl.2.1, fun k v hk => ?_⟩, by simp; omega⟩
    · rw [hl.1]; simp; omega
    · refine hl.2.2 (k, eg_cv ad v) ?_
      have hk2 : (eg_row as)[k]? = some (some v) := by
        rw [List.getElem?_append] at hk
        split at hk
        · exact hk
        · rw [List.getElem?_replicate] at hk
          split at hk <;> cases hk
      have := eg_row_at ad as 0 k v hk2
      rwa [Nat.zero_add] at this
  · cases h
section EGT
variable {p : Program} {l : Launch} {e : Env} {R : Room} {s : State} {m : MethodId} {args : Array Value} {below : List Frame} {meth : Method} {c : Code} {Q : State → Prop}
variable {cc : ByteArray} {ad : Nat → Nat} {D : va_G} {cl : List vw_C} {ty : Nat → Nat → FieldType} {K0 base : Nat} {B : Heap} {Ts Tn : List Cond} {own : String} {ini : Bool} {Zs : eg_Z} {M : eg_M} {mt : Nat → Option eg_D}
set_option maxHeartbeats 8000000 in
/-- a run of the pure machine is one of the bytecode's -/
theorem eg_run_ok {t : Option FieldType} {f : eg_F} {rf rl : Nat} (X : eg_X p R s m args meth c cc own ini Ts Tn cl ty Zs D ad K0 base B M) (hpc : ∀ (ix : Nat) (x : eg_E), M.2 ix = some x → eg_pokc Ts Tn cl mt own ix x)
    (hTn : ∀ w ∈ Tn, eg_nw2 w) (hgood : ∀ w ∈ Ts, ((w.onTables && w.keeps) = true ∨ ∃ ty, w = .arrayClass ty)) (hmx : ∀ j y, mt j = some y → y.2.2.1 ≤ 45)
    (hf : ∀ j as h v h2, f j as h = some (v, h2) → ∀ y, mt j = some y → eg_Met l D cl ad K0 base B Ts Tn Zs rf rl y as h v h2) (hfl : ∀ j as h v h2, f j as h = some (v, h2) → eg_le h h2) (hrf : rf + 1 ≤ R.frames) (hrl : rl + 64 ≤ R.locals) :
    ∀ (n pc : Nat) (la : eg_L) (st : List Value) (h : eg_H) (v : Option Value) (h2 : eg_H), eg_run cl ty K0 t M f n (pc, la, st, h) = some (v, h2) →
      ∀ (ls : Array Slot) (H : Heap) (locs : List Loc) (cells slots : Nat), eg_lr ad ls la → la.length = c.maxLocals → eg_R D cl ad K0 base s h H → va_S (fun q => base ≤ q) B H locs → cells + (h2.2.1 - h.2.1) ≤ R.cells → slots + (h2.2.2 - h.2.2) ≤ R.slots →
      (∀ (pc : Nat) (la : eg_L) (st : List Value) (ls : Array Slot) (H : Heap) (locs : List Loc), eg_ret t M (pc, la, st, h2) = some v → eg_R D cl ad K0 base s h2 H → va_S (fun q => base ≤ q) B H locs → W p l e R s m args below meth c H locs (cells + (h2.2.1 - h.2.1)) (slots + (h2.2.2 - h.2.2)) Q (F0 m pc ls (st.map (eg_cv ad)))) →
      W p l e R s m args below meth c H locs cells slots Q (F0 m pc ls (st.map (eg_cv ad))) := by
  intro n
  induction n with
  | zero => intro pc la st h v h2 hs; cases hs
  | succ n ih =>
    intro pc la st h v h2 hs ls H locs cells slots hl hlen hR hS hc1 hc2 hret
    have hle0 := eg_run_le hfl _ _ _ _ hs
    simp only [eg_run] at hs
    split at hs
    · next v9 hv9 =>
      cases hs
      exact W.cs (by omega) (by omega) (hret pc la st ls H locs hv9 hR hS)
    · split at hs
      · next y hy =>
        have go : ∀ (pc' : Nat) (la' : eg_L) (st' : List Value) (h' : eg_H) (ls' : Array Slot) (H' : Heap) (locs' : List Loc), eg_run cl ty K0 t M f n (pc', la', st', h') = some (v, h2) → eg_le h h' → eg_lr ad ls' la' → la'.length = c.maxLocals → eg_R D cl ad K0 base s h' H' → va_S (fun q => base ≤ q) B H' locs' →
            W p l e R s m args below meth c H' locs' (cells + (h'.2.1 - h.2.1)) (slots + (h'.2.2 - h.2.2)) Q (F0 m pc' ls' (st'.map (eg_cv ad))) := by
          intro pc' la' st' h' ls' H' locs' hr' hle hl' hlen' hR' hS'
          have hle2 := eg_run_le hfl _ _ _ _ hr'
          have a1 := hle.1
          have a2 := hle.2
          have a3 := hle2.1
          have a4 := hle2.2
          dsimp only at a3 a4
          refine ih pc' la' st' h' v h2 hr' ls' H' locs' _ _ hl' hlen' hR' hS' (by omega) (by omega) (fun pc la st ls H locs q1 q2 q3 => ?_)
          exact W.cs (by omega) (by omega) (hret pc la st ls H locs q1 q2 q3)
        have go0 : ∀ (pc' : Nat) (la' : eg_L) (st' : List Value) (ls' : Array Slot), eg_run cl ty K0 t M f n (pc', la', st', h) = some (v, h2) → eg_lr ad ls' la' → la'.length = c.maxLocals →
            W p l e R s m args below meth c H locs cells slots Q (F0 m pc' ls' (st'.map (eg_cv ad))) := by
          intro pc' la' st' ls' hr' hl' hlen'
          exact W.cs (by omega) (by omega) (go pc' la' st' h ls' H locs hr' (eg_le.rf h) hl' hlen' hR hS)
        have X9 := X
        obtain ⟨hx, hb, -, -, -, -, -, -, had9, -, -, -, hdec, -, -⟩ := X9
        unfold eg_step at hy
        dsimp only at hy
        split at hy
        · next i k9 hi =>
          have hd := hdec pc i k9 hi
          split at hy
          · next st9 h9 =>
            split at hy
            · next hk =>
              cases hy
              subst hk
              exact eg_p_ok hx hb hd h9 (go0 _ _ _ _ hs hl hlen)
            · cases hy
          · split at hy
            · next z h9 =>
              split at hy
              · next hk =>
                cases hy
                obtain ⟨lz, sz⟩ := z
                rcases hk with hk | ⟨hk, hinc⟩
                rotate_left
                · subst hk
                  exact eg_vw_ok hx hb hinc hd hl h9 (fun ls9 hl9 => go0 _ _ _ _ hs hl9 ((eg_v_len h9).trans hlen))
                subst hk
                exact eg_v_ok hx hb hd hl h9 (fun ls9 hl9 => go0 _ _ _ _ hs hl9 ((eg_v_len h9).trans hlen))
              · cases hy
            · split at hy
              · next z h9 =>
                split at hy
                · next hk =>
                  cases hy
                  obtain ⟨pz, sz⟩ := z
                  exact eg_b_ok hx hb had9 hd hk h9 (go0 _ _ _ _ hs hl hlen)
                · cases hy
              · split at hy
                · next z h9 =>
                  split at hy
                  · next hk =>
                    cases hy
                    subst hk
                    obtain ⟨sz, hz⟩ := z
                    have hle := eg_h_le h9
                    have hle2 := eg_run_le hfl _ _ _ _ hs
                    have a1 := hle.1
                    have a2 := hle.2
                    have a3 := hle2.1
                    have a4 := hle2.2
                    dsimp only at a3 a4
                    exact eg_h_ok X hR hS (hl.1.trans hlen) hd h9 (by omega) (by omega) (fun H1 locs1 q1 q2 => go _ _ _ _ _ H1 locs1 hs hle hl hlen q1 q2)
                  · cases hy
                · split at hy
                  · next z h9 =>
                    split at hy
                    · next hk =>
                      cases hy
                      subst hk
                      obtain ⟨sz, hz⟩ := z
                      have hle := eg_c_le hfl h9
                      have hle2 := eg_run_le hfl _ _ _ _ hs
                      have a1 := hle.1
                      have a2 := hle.2
                      have a3 := hle2.1
                      have a4 := hle2.2
                      dsimp only at a3 a4
                      exact eg_c_ok X hpc hTn hgood hmx hf hrf hrl hR hS (hl.1.trans hlen) hd h9 (by omega) (by omega) (fun H1 locs1 q1 q2 => go _ _ _ _ _ H1 locs1 hs hle hl hlen q1 q2)
                    · cases hy
                  · cases hy
        · cases hy
      · cases hs
/-- what must be known of the table of methods -/
def eg_mok (Tg Tn : List Cond) (cl : List vw_C) (Zs : eg_Z) (mt : Nat → Option eg_D) : Prop := ∀ (j : Nat) (y : eg_D), mt j = some y →
  (∀ (pc : Nat) (i : Instr) (n : Nat), y.2.2.2.2.1 pc = some (i, n) → decode y.2.1 pc = .ok (i, n)) ∧ (∀ (ix : Nat) (x : eg_E), y.2.2.2.2.2 ix = some x → eg_pok Tg Tn cl y.1.cls (y.1.name == "<init>") Zs ix x ∧ eg_pokc Tg Tn cl mt y.1.cls ix x) ∧ plainName y.1.cls = true ∧ y.2.2.1 ≤ 45
/-- what stands fast for all methods -/
def eg_G (Tg Tn : List Cond) (cl : List vw_C) (ty : Nat → Nat → FieldType) (Zs : eg_Z) (mt : Nat → Option eg_D) : Prop :=
  eg_mok Tg Tn cl Zs mt ∧ (∀ w ∈ Tn, eg_nw2 w) ∧ (∀ w ∈ Tg, ((w.onTables && w.keeps) = true ∨ ∃ ty, w = .arrayClass ty)) ∧ eg_clok Tg cl ty ∧ ∀ t, eg_nt t = true → Cond.arrayClass (newarray.typeOf t) ∈ Tg
set_option maxHeartbeats 8000000 in
/-- EVERY METHOD OF THE TABLE KEEPS TO WHAT THE PURE MACHINE SAYS -/
theorem eg_sound (G : eg_G Ts Tn cl ty Zs mt) (had : eg_ad ad K0 base) (n : Nat) : ∀ (d j : Nat) (as : List Value) (h : eg_H) (v : Option Value) (h2 : eg_H), eg_go cl ty K0 mt n d j as h = some (v, h2) → ∀ y, mt j = some y → eg_Met l D cl ad K0 base B Ts Tn Zs d (20 + 64 * d) y as h v h2 := by
  obtain ⟨hmok, hTn, hgood, hcl, hna⟩ := G
  intro d
  induction d with
  | zero => intro j as h v h2 hs; cases hs
  | succ d ih =>
    intro j as h v h2 hs y hy
    simp only [eg_go, hy] at hs
    split at hs
    · next la hla =>
      obtain ⟨m1, m2, m3, m4⟩ := hmok j y hy
      refine Met.ofW (cc := y.2.1) (maxL := y.2.2.1) (ret := y.2.2.2.1) m3 rfl ?_
      intro p e s m args below meth c s₁ Bd hml hv
      obtain ⟨rfl, hR, hS, hK, hN, hZ⟩ := hv
      have hts := atoms_spec (ws := Cond.code y.1 y.2.1 y.2.2.1 y.2.2.2.1 :: Ts) Bd.pre
      have hname := (name_of_methodNamed Bd.named Bd.method).1
      have hlocks := Bd.notSynchronized
      have hr := Bd.returns
      obtain ⟨hl0, hlen0⟩ := eg_in0_ok (ad := ad) hla
      rw [lg_entry_eq]
      have X : eg_X p (headSpec (Cond.code y.1 y.2.1 y.2.2.1 y.2.2.2.1 :: Ts) { frames := d + 1, cells := h2.2.1 - h.2.1, slots := h2.2.2 - h.2.2, locals := 20 + 64 * (d + 1) }).room s m (as.map (eg_cv ad)).toArray meth c y.2.1 y.1.cls (y.1.name == "<init>") Ts Tn cl ty Zs D ad K0 base B y.2.2.2.2 :=
        ⟨Bd.exec, Bd.bytes, findClass_of_methodNamed Bd.named, fun w hw => hts w (List.mem_cons_of_mem _ hw), fun w hw => va_Nw.use (hTn w hw).tab (hN w hw), hcl, fun q => by rw [hname]; simpa using q, hK, had, hna, hZ, fun ix x hx => (m2 ix x hx).1, m1, by show 1 ≤ d + 1; omega, by show 84 ≤ 20 + 64 * (d + 1); omega⟩
      refine eg_run_ok X (fun ix x hx => (m2 ix x hx).2) hTn hgood (fun j y hj => (hmok j y hj).2.2.2) ih (fun j as h v h2 => eg_go_le d j as h v h2) (by show d + 1 ≤ d + 1; omega) (by show 20 + 64 * d + 64 ≤ 20 + 64 * (d + 1); omega) n 0 la [] h v h2 hs _ _ [] 0 0 hl0 (hlen0.trans hml.symm) hR hS (by show 0 + (h2.2.1 - h.2.1) ≤ h2.2.1 - h.2.1; omega) (by show 0 + (h2.2.2 - h.2.2) ≤ h2.2.2 - h.2.2; omega) ?_
      intro pc la9 st9 ls H locs hret hR9 hS9
      refine W.cs (cells' := h2.2.1 - h.2.1) (slots' := h2.2.2 - h.2.2) (by omega) (by omega) ?_
      have fin : ∀ v9 : Option Value, v9 = v → ∀ t : State, t.heap = H → s.WarmedH t.vm → eg_Qc D cl ad K0 base B v h2 (as.map (eg_cv ad)).toArray s (.returned (v9.map (eg_cv ad))) t := by
        intro v9 e9 t ht hW
        subst e9
        exact ⟨rfl, by rw [ht]; exact hR9.moved hW.alike, by rw [ht]; exact ⟨hS9.1, hS9.2.1, fun _ q => by cases q⟩⟩
      unfold eg_ret at hret
      dsimp only at hret
      split at hret
      · next hi =>
        have hd := m1 _ _ _ hi
        split at hret
        · next x hrt =>
          exact W.iret Bd.exec Bd.bytes (hr.trans (by assumption)) (fin _ (Option.some.inj hret)) hS9.2.2 hd
        · next x hrt =>
          split at hret
          · next hx9 =>
            refine W.zret Bd.exec Bd.bytes (hr.trans (by assumption)) ?_ (fin _ (Option.some.inj hret)) hS9.2.2 hd
            rcases hx9 with rfl | rfl <;> decide
          · cases hret
        · cases hret
      · next hi =>
        have hd := m1 _ _ _ hi
        split at hret
        · exact W.lret Bd.exec Bd.bytes (hr.trans (by assumption)) (fin _ (Option.some.inj hret)) hS9.2.2 hd
        · cases hret
      · next hi =>
        have hd := m1 _ _ _ hi
        split at hret
        · exact W.aret Bd.exec Bd.bytes (hr.trans (by assumption)) (Or.inl ⟨_, rfl⟩) (Or.inr ⟨_, rfl⟩) (fin _ (Option.some.inj hret)) hS9.2.2 hd
        · exact W.aret Bd.exec Bd.bytes (hr.trans (by assumption)) (Or.inl ⟨_, rfl⟩) (Or.inl rfl) (fin _ (Option.some.inj hret)) hS9.2.2 hd
        · exact W.aret Bd.exec Bd.bytes (hr.trans (by assumption)) (Or.inr ⟨_, rfl⟩) (Or.inr ⟨_, rfl⟩) (fin _ (Option.some.inj hret)) hS9.2.2 hd
        · exact W.aret Bd.exec Bd.bytes (hr.trans (by assumption)) (Or.inr ⟨_, rfl⟩) (Or.inl rfl) (fin _ (Option.some.inj hret)) hS9.2.2 hd
        · cases hret
      · next hi =>
        have hd := m1 _ _ _ hi
        split at hret
        · exact W.vret Bd.exec Bd.bytes (hr.trans (by assumption)) (fin _ (Option.some.inj hret)) hS9.2.2 hd
        · cases hret
      · cases hret
    · cases hs
end EGT
