/-! THE PURE MACHINE, part 2: the places of a frame -/
def eg_get (l : eg_L) (k : Nat) : Option Value := match l[k]? with
  | some (some v) => some v
  | _ => none
/-- a value of two places just before k goes when k is stored -/
def eg_cl (l : eg_L) (k : Nat) : eg_L := match k with
  | 0 => l
  | j + 1 => match l[j]? with
    | some (some w) => if w.category = 2 then l.set j none else l
    | _ => l
def eg_put (l : eg_L) (k : Nat) (v : Value) : Option eg_L :=
  if v.category = 2 then (if k + 1 < l.length then some (((eg_cl l k).set k (some v)).set (k + 1) none) else none)
  else if k < l.length then some ((eg_cl l k).set k (some v)) else none
def eg_isI (v : Value) : Bool := match v with
  | .int _ => true
  | _ => false
def eg_isJ (v : Value) : Bool := match v with
  | .long _ => true
  | _ => false
def eg_isA (v : Value) : Bool := match v with
  | .ref _ => true
  | .null => true
  | _ => false
def eg_vld (t : Value → Bool) (l : eg_L) (k : Nat) (st : List Value) : Option (eg_L × List Value) := match eg_get l k with
  | some v => if t v = true then some (l, v :: st) else none
  | none => none
def eg_vst (t : Value → Bool) (l : eg_L) (k : Nat) (st : List Value) : Option (eg_L × List Value) := match st with
  | v :: r => if t v = true then (match eg_put l k v with
    | some l2 => some (l2, r)
    | none => none) else none
  | [] => none
def eg_inc (l : eg_L) (k : Nat) (n : Int) (st : List Value) : Option (eg_L × List Value) := match eg_get l k with
  | some (.int x) => (match eg_put l k (.int (x + Int32.ofInt n)) with
    | some l2 => some (l2, st)
    | none => none)
  | _ => none
def eg_v (i : Instr) (l : eg_L) (st : List Value) : Option (eg_L × List Value) := match i with
  | .iload k => eg_vld eg_isI l k st
  | .iload_n k => eg_vld eg_isI l k st
  | .lload k => eg_vld eg_isJ l k st
  | .lload_n k => eg_vld eg_isJ l k st
  | .aload k => eg_vld eg_isA l k st
  | .aload_n k => eg_vld eg_isA l k st
  | .istore k => eg_vst eg_isI l k st
  | .istore_n k => eg_vst eg_isI l k st
  | .lstore k => eg_vst eg_isJ l k st
  | .lstore_n k => eg_vst eg_isJ l k st
  | .astore k => eg_vst eg_isA l k st
  | .astore_n k => eg_vst eg_isA l k st
  | .iinc k n => eg_inc l k n st
  | _ => none
def eg_vl (i : Instr) : Nat := match i with
  | .iload _ => 2
  | .lload _ => 2
  | .aload _ => 2
  | .istore _ => 2
  | .lstore _ => 2
  | .astore _ => 2
  | .iinc _ _ => 3
  | _ => 1
/-- the machine's places hold the row's values -/
def eg_lr (ad : Nat → Nat) (ls : Array Slot) (l : eg_L) : Prop := ls.size = l.length ∧ lv_wf ls ∧ ∀ (k : Nat) (v : Value), l[k]? = some (some v) → ls[k]? = some (.val (eg_cv ad v))
def eg_as (ad : Nat → Nat) (l : eg_L) : List (Nat × Value) := (List.range l.length).filterMap fun k => match l[k]? with
  | some (some v) => some (k, eg_cv ad v)
  | _ => none
theorem eg_as_mem {ad : Nat → Nat} {l : eg_L} {k : Nat} {u : Value} : (k, u) ∈ eg_as ad l ↔ ∃ v, l[k]? = some (some v) ∧ u = eg_cv ad v := by
  unfold eg_as
  rw [List.mem_filterMap]
  constructor
  · rintro ⟨j, -, hj⟩
    split at hj
    · next v hv =>
      cases hj
      exact ⟨v, hv, rfl⟩
    · cases hj
  · rintro ⟨v, hv, rfl⟩
    refine ⟨k, List.mem_range.mpr (List.getElem?_eq_some_iff.mp hv).1, ?_⟩
    rw [hv]
theorem eg_lr_has {ad : Nat → Nat} {ls : Array Slot} {l : eg_L} (h : eg_lr ad ls l) : lv_has ls l.length (eg_as ad l) := by
  refine ⟨h.1, h.2.1, fun q hq => ?_⟩
  obtain ⟨k, u⟩ := q
  obtain ⟨v, hv, rfl⟩ := eg_as_mem.mp hq
  exact h.2.2 k v hv
theorem eg_get_at {ad : Nat → Nat} {ls : Array Slot} {l : eg_L} {k : Nat} {v : Value} (h : eg_lr ad ls l) (hg : eg_get l k = some v) : ls[k]? = some (.val (eg_cv ad v)) := by
  unfold eg_get at hg
  split at hg
  · next w hw =>
    cases hg
    exact h.2.2 k _ hw
  · cases hg
theorem eg_cl_len (l : eg_L) (k : Nat) : (eg_cl l k).length = l.length := by
  unfold eg_cl
  split
  · rfl
  · split
    · split
      · simp
      · rfl
    · rfl
theorem eg_cl_at {l : eg_L} {k j : Nat} {v : Value} (h : (eg_cl l k)[j]? = some (some v)) : l[j]? = some (some v) ∧ ¬ (j + 1 = k ∧ v.category = 2) := by
  unfold eg_cl at h
  split at h
  · exact ⟨h, fun q => by omega⟩
  · next i =>
    split at h
    · next w hw =>
      split at h
      · rw [List.getElem?_set] at h
        split at h
        · split at h <;> cases h
        · next hne => exact ⟨h, fun q => hne (by omega)⟩
      · next hc =>
        refine ⟨h, fun q => hc ?_⟩
        have hj : j = i := by omega
        subst hj
        rw [hw] at h
        cases h
        exact q.2
    · next hn =>
      refine ⟨h, fun q => ?_⟩
      have hj : j = i := by omega
      subst hj
      exact hn v h
theorem eg_put1_has {ad : Nat → Nat} {ls : Array Slot} {l : eg_L} {k : Nat} {v : Value} (hc : v.category = 1) (hk : k < l.length)
    (h : lv_has ls l.length ((k, eg_cv ad v) :: (eg_as ad l).filter (fun q => !(q.1 == k) && !(q.1 + 1 == k && q.2.category == 2)))) : eg_lr ad ls ((eg_cl l k).set k (some v)) := by
  refine ⟨by rw [h.1, List.length_set, eg_cl_len], h.2.1, fun j w hj => ?_⟩
  rw [List.getElem?_set] at hj
  split at hj
  · next he =>
    split at hj
    · cases hj
      subst he
      exact h.2.2 (k, eg_cv ad v) List.mem_cons_self
    · cases hj
  · next hne =>
    obtain ⟨h1, h2⟩ := eg_cl_at hj
    refine h.2.2 (j, eg_cv ad w) (List.mem_cons_of_mem _ (List.mem_filter.mpr ⟨eg_as_mem.mpr ⟨w, h1, rfl⟩, ?_⟩))
    have e1 : (j == k) = false := by simpa using fun q => hne q.symm
    have e2 : (j + 1 == k && (eg_cv ad w).category == 2) = false := by
      rw [eg_cv_cat]
      rcases Nat.decEq (j + 1) k with q | q
      · simp [q]
      · have : ¬ w.category = 2 := fun z => h2 ⟨q, z⟩
        simp [this]
    simp [e1, e2]
theorem eg_put2_has {ad : Nat → Nat} {ls : Array Slot} {l : eg_L} {k : Nat} {v : Value} (hc : v.category = 2) (hk : k + 1 < l.length)
    (h : lv_has ls l.length ((k, eg_cv ad v) :: (eg_as ad l).filter (fun q => !(q.1 == k) && (!(q.1 == k + 1) && !(q.1 + 1 == k && q.2.category == 2))))) : eg_lr ad ls (((eg_cl l k).set k (some v)).set (k + 1) none) := by
  refine ⟨by rw [h.1, List.length_set, List.length_set, eg_cl_len], h.2.1, fun j w hj => ?_⟩
  rw [List.getElem?_set] at hj
  split at hj
  · split at hj <;> cases hj
  · next hne2 =>
    rw [List.getElem?_set] at hj
    split at hj
    · next he =>
      split at hj
      · cases hj
        subst he
        exact h.2.2 (k, eg_cv ad v) List.mem_cons_self
      · cases hj
    · next hne =>
      obtain ⟨h1, h2⟩ := eg_cl_at hj
      refine h.2.2 (j, eg_cv ad w) (List.mem_cons_of_mem _ (List.mem_filter.mpr ⟨eg_as_mem.mpr ⟨w, h1, rfl⟩, ?_⟩))
      have e1 : (j == k) = false := by simpa using fun q => hne q.symm
      have e3 : (j == k + 1) = false := by simpa using fun q => hne2 q.symm
      have e2 : (j + 1 == k && (eg_cv ad w).category == 2) = false := by
        rw [eg_cv_cat]
        rcases Nat.decEq (j + 1) k with q | q
        · simp [q]
        · have : ¬ w.category = 2 := fun z => h2 ⟨q, z⟩
          simp [this]
      simp [e1, e2, e3]
theorem eg_put_len {l l2 : eg_L} {k : Nat} {v : Value} (h : eg_put l k v = some l2) : l2.length = l.length := by
  unfold eg_put at h
  split at h
  · split at h
    · cases h; simp [eg_cl_len]
    · cases h
  · split at h
    · cases h; simp [eg_cl_len]
    · cases h
section EGV
variable {p : Program} {l : Launch} {e : Env} {R : Room} {s : State} {m : MethodId} {args : Array Value} {below : List Frame} {meth : Method} {c : Code} {H : Heap} {locs : List Loc} {cells slots : Nat} {Q : State → Prop}
variable {cc : ByteArray} {pc : Nat} {ls : Array Slot} {st st2 : List Value} {ad : Nat → Nat} {la lb : eg_L}
set_option maxHeartbeats 4000000 in
/-- instructions on the frame's places -/
theorem eg_v_ok (hx : p.tables.exec = Jvm.exec) (hb : c.code = cc) {i : Instr} (hd : decode cc pc = .ok (i, eg_vl i)) (hl : eg_lr ad ls la) (h : eg_v i la st = some (lb, st2))
    (k : ∀ ls2 : Array Slot, eg_lr ad ls2 lb → W p l e R s m args below meth c H locs cells slots Q (F0 m (pc + eg_vl i) ls2 (st2.map (eg_cv ad)))) : W p l e R s m args below meth c H locs cells slots Q (F0 m pc ls (st.map (eg_cv ad))) := by
  cases i <;> (try (exact eg_no h))
  case iload j =>
    simp only [eg_v, eg_vld] at h
    split at h
    · next v hv =>
      split at h
      · next ht =>
        cases h
        have hg := eg_get_at hl hv
        cases v <;> simp only [eg_isI] at ht <;> first | exact lv_iload hx hb hd hg (k ls hl) | cases ht
      · cases h
    · cases h
  case iload_n j =>
    simp only [eg_v, eg_vld] at h
    split at h
    · next v hv =>
      split at h
      · next ht =>
        cases h
        have hg := eg_get_at hl hv
        cases v <;> simp only [eg_isI] at ht <;> first | exact lv_iload_n hx hb hd rfl hg (k ls hl) | cases ht
      · cases h
    · cases h
  case lload j =>
    simp only [eg_v, eg_vld] at h
    split at h
    · next v hv =>
      split at h
      · next ht =>
        cases h
        have hg := eg_get_at hl hv
        cases v <;> simp only [eg_isJ] at ht <;> first | exact lv_lload hx hb hd hg (k ls hl) | cases ht
      · cases h
    · cases h
  case lload_n j =>
    simp only [eg_v, eg_vld] at h
    split at h
    · next v hv =>
      split at h
      · next ht =>
        cases h
        have hg := eg_get_at hl hv
        cases v <;> simp only [eg_isJ] at ht <;> first | exact lv_lload_n hx hb hd rfl hg (k ls hl) | cases ht
      · cases h
    · cases h
  case aload j =>
    simp only [eg_v, eg_vld] at h
    split at h
    · next v hv =>
      split at h
      · next ht =>
        cases h
        have hg := eg_get_at hl hv
        cases v <;> simp only [eg_isA] at ht <;> first | exact lv_aload hx hb hd hg (k ls hl) | exact lv_aloadN hx hb hd hg (k ls hl) | cases ht
      · cases h
    · cases h
  case aload_n j =>
    simp only [eg_v, eg_vld] at h
    split at h
    · next v hv =>
      split at h
      · next ht =>
        cases h
        have hg := eg_get_at hl hv
        cases v <;> simp only [eg_isA] at ht <;> first | exact lv_aload_n hx hb hd rfl hg (k ls hl) | exact lv_aload_nN hx hb hd rfl hg (k ls hl) | cases ht
      · cases h
    · cases h
  case istore j =>
    simp only [eg_v, eg_vst] at h
    split at h
    · next v r =>
      split at h
      · next ht =>
        split at h
        · next l2 hp =>
          cases h
          cases v <;> simp only [eg_isI] at ht <;> first | cases ht | skip
          simp only [eg_put, Value.category] at hp
          simp at hp
          obtain ⟨hlt, rfl⟩ := hp
          exact lv_istore hx hb hd (eg_lr_has hl) hlt rfl (fun ls2 h2 => k ls2 (eg_put1_has rfl hlt h2))
        · cases h
      · cases h
    · cases h
  case istore_n j =>
    simp only [eg_v, eg_vst] at h
    split at h
    · next v r =>
      split at h
      · next ht =>
        split at h
        · next l2 hp =>
          cases h
          cases v <;> simp only [eg_isI] at ht <;> first | cases ht | skip
          simp only [eg_put, Value.category] at hp
          simp at hp
          obtain ⟨hlt, rfl⟩ := hp
          exact lv_istore_n hx hb hd rfl (eg_lr_has hl) hlt rfl (fun ls2 h2 => k ls2 (eg_put1_has rfl hlt h2))
        · cases h
      · cases h
    · cases h
  case lstore j =>
    simp only [eg_v, eg_vst] at h
    split at h
    · next v r =>
      split at h
      · next ht =>
        split at h
        · next l2 hp =>
          cases h
          cases v <;> simp only [eg_isJ] at ht <;> first | cases ht | skip
          simp only [eg_put, Value.category] at hp
          simp at hp
          obtain ⟨hlt, rfl⟩ := hp
          exact lv_lstore hx hb hd (eg_lr_has hl) hlt rfl (fun ls2 h2 => k ls2 (eg_put2_has rfl hlt h2))
        · cases h
      · cases h
    · cases h
  case lstore_n j =>
    simp only [eg_v, eg_vst] at h
    split at h
    · next v r =>
      split at h
      · next ht =>
        split at h
        · next l2 hp =>
          cases h
          cases v <;> simp only [eg_isJ] at ht <;> first | cases ht | skip
          simp only [eg_put, Value.category] at hp
          simp at hp
          obtain ⟨hlt, rfl⟩ := hp
          exact lv_lstore_n hx hb hd rfl (eg_lr_has hl) hlt rfl (fun ls2 h2 => k ls2 (eg_put2_has rfl hlt h2))
        · cases h
      · cases h
    · cases h
  case astore j =>
    simp only [eg_v, eg_vst] at h
    split at h
    · next v r =>
      split at h
      · next ht =>
        split at h
        · next l2 hp =>
          cases h
          cases v <;> simp only [eg_isA] at ht <;> first | cases ht | skip
          all_goals simp only [eg_put, Value.category] at hp
          all_goals simp at hp
          all_goals obtain ⟨hlt, rfl⟩ := hp
          all_goals first | exact lv_astore hx hb hd (eg_lr_has hl) hlt rfl (fun ls2 h2 => k ls2 (eg_put1_has rfl hlt h2)) | exact lv_astoreN hx hb hd (eg_lr_has hl) hlt rfl (fun ls2 h2 => k ls2 (eg_put1_has rfl hlt h2))
        · cases h
      · cases h
    · cases h
  case astore_n j =>
    simp only [eg_v, eg_vst] at h
    split at h
    · next v r =>
      split at h
      · next ht =>
        split at h
        · next l2 hp =>
          cases h
          cases v <;> simp only [eg_isA] at ht <;> first | cases ht | skip
          all_goals simp only [eg_put, Value.category] at hp
          all_goals simp at hp
          all_goals obtain ⟨hlt, rfl⟩ := hp
          all_goals first | exact lv_astore_n hx hb hd rfl (eg_lr_has hl) hlt rfl (fun ls2 h2 => k ls2 (eg_put1_has rfl hlt h2)) | exact lv_astore_nN hx hb hd rfl (eg_lr_has hl) hlt rfl (fun ls2 h2 => k ls2 (eg_put1_has rfl hlt h2))
        · cases h
      · cases h
    · cases h
  case iinc j n =>
    simp only [eg_v, eg_inc] at h
    split at h
    · next x hv =>
      split at h
      · next l2 hp =>
        cases h
        simp only [eg_put, Value.category] at hp
        simp at hp
        obtain ⟨hlt, rfl⟩ := hp
        have hm : (j, Value.int x) ∈ eg_as ad la := by
          refine eg_as_mem.mpr ⟨.int x, ?_, rfl⟩
          unfold eg_get at hv
          split at hv
          · next w hw => cases hv; exact hw
          · cases hv
        obtain ⟨q, hq⟩ := List.getElem?_of_mem hm
        exact lv_iinc hx hb hd (eg_lr_has hl) hq rfl hlt rfl (fun ls2 h2 => k ls2 (eg_put1_has rfl hlt h2))
      · cases h
    · cases h
def eg_isinc (i : Instr) : Bool := match i with
  | .iinc _ _ => true
  | _ => false
/-- a wide iinc -/
theorem eg_vw_ok (hx : p.tables.exec = Jvm.exec) (hb : c.code = cc) {i : Instr} (hi : eg_isinc i = true) (hd : decode cc pc = .ok (i, 6)) (hl : eg_lr ad ls la) (h : eg_v i la st = some (lb, st2))
    (k : ∀ ls2 : Array Slot, eg_lr ad ls2 lb → W p l e R s m args below meth c H locs cells slots Q (F0 m (pc + 6) ls2 (st2.map (eg_cv ad)))) : W p l e R s m args below meth c H locs cells slots Q (F0 m pc ls (st.map (eg_cv ad))) := by
  cases i <;> first | cases hi | skip
  next j n =>
    simp only [eg_v, eg_inc] at h
    split at h
    · next x hv =>
      split at h
      · next l2 hp =>
        cases h
        simp only [eg_put, Value.category] at hp
        simp at hp
        obtain ⟨hlt, rfl⟩ := hp
        have hm : (j, Value.int x) ∈ eg_as ad la := by
          refine eg_as_mem.mpr ⟨.int x, ?_, rfl⟩
          unfold eg_get at hv
          split at hv
          · next w hw => cases hv; exact hw
          · cases hv
        obtain ⟨q, hq⟩ := List.getElem?_of_mem hm
        exact lv_iincW hx hb hd (eg_lr_has hl) hq rfl hlt rfl (fun ls2 h2 => k ls2 (eg_put1_has rfl hlt h2))
      · cases h
    · cases h
end EGV
