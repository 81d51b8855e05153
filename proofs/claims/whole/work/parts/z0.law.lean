/-! THE CLAIM OUT OF ONE WALK OF THE LAW'S BODY. Your part is whole_start (and what it stands on); all else here is the same for every law, but numbers. -/
def R_law : String := "FrozenVolumeLaw"
def lw_P (b : Addr) (xs : List Int32) (args : Array Value) (s : State) : Prop := args = #[.ref b] ∧ s.IntsAt b xs ∧ xs.length ≤ 3072 ∧ (Jvm.Cond.and given_1 narrow_1).before args s = true
def lw_Q (_ : Array Value) (s : State) (o : Outcome) (t : State) : Prop := o = .returned (some (.int 1)) ∧ Framed s o t [] 350723 8050080
def lw_Z (below : List Frame) (a : Array Value) (s : State) : State → Prop := fun t => ∃ o, t.status = .running ∧ Ended t below o ∧ lw_Q a s o t
/-- the law's own end, with 1 on the stack, nothing written that was there before, its room as the claim has it -/
theorem lw_ret {p : Program} {l : Launch} {e : Env} {s : State} {m : MethodId} {below : List Frame} {meth : Method} {c : Code} {b : Nat} (hx : p.tables.exec = Jvm.exec) (hb : c.code = code) (hr : meth.sig.returnType = ret) (hlocks : meth.locks = false) {pc : Nat} {H : Heap} {ls : Array Slot} (hdg : decode code pc = .ok (.ireturn, 1)) : W p l e room_1 s m #[Value.ref b] below meth c H [] 350723 8050080 (lw_Z below #[Value.ref b] s) (F0 m pc ls [.int 1]) := by
  intro T hT X
  obtain ⟨fs, hret, hrun, hended, hW, hframe⟩ := X.leave (v := some (.int 1)) (hlocks := hlocks) (fun h => by rw [hr] at h; cases h)
  have hmeth' : T.vm.method? m = some meth := X.method'
  refine ⟨T.setFrames fs, ?_, .returned (some (.int 1)), hrun, hended, rfl, ⟨_, rfl⟩, hW, hframe⟩
  jvm_step X.here [X.here.top, hx, hb, hdg, hmeth', hr, ret, narrow_b1]
  (try refine ⟨rfl, ?_⟩); (try refine ⟨rfl, ?_⟩)
  first | (intro acts; rw [hret _ acts rfl rfl rfl]) | rw [hret _ _ rfl rfl rfl]
  exact Steps.refl _
/-- what holds at the law's entry: the machine, the code, the tables' words (any of lw_tbl by 'hts w (by decide +kernel)'), the script of L ints xs at the cell b, what the Statement gives of the start (any of its parts by flat_of_before) -/
def lw_At (p : Program) (s : State) (m : MethodId) (meth : Method) (c : Code) (b L : Nat) (xs : Nat → Int32) : Prop :=
  p.tables.exec = Jvm.exec ∧ c.code = code ∧ meth.sig.returnType = ret ∧ c.maxLocals = 4 ∧ s.vm.findClass R_law = some m.cls ∧ (∀ w ∈ lw_tbl, w.before #[Value.ref b] s = true) ∧ va_X b L xs s s.heap ∧ b < s.heap.size ∧ meth.locks = false ∧ (Jvm.Cond.and given_1 narrow_1).before #[Value.ref b] s = true
/-! THE CLAIM AS ONE OF THE PURE MACHINE -/
def st_tel : Nat → Value := fun j => .int (([16, 17, 18, 0, 8, 7, 9, 6, 10, 5, 11, 4, 12, 3, 13, 2, 14, 1, 15] : List Int32).getD j 0)
def st_fix : Nat → Value := fun j => .int (([0, 32, 32, 24, 24, 24, 20, 20, 40, 56, 24, 28, 28, 24, 24] : List Int32).getD j 0)
/-- the cells at the law's entry: the script, and the two static rows -/
def eg_h0 (L : Nat) (xs : Nat → Int32) : eg_H := (fun k => match k with
  | 0 => some (.inl (.int, L, fun j => .int (xs j)))
  | 1 => some (.inl (.int, 19, st_tel))
  | 2 => some (.inl (.int, 15, st_fix))
  | _ => none, 3, 0)
def law_M : eg_M := (kcL, kp0)
/-- on every script of at most N ints the law's run answers 1, within the room -/
def law_pure (N : Nat) : Prop := ∀ (L : Nat) (xs : Nat → Int32), L ≤ N → ∃ (n d : Nat) (h2 : eg_H), d ≤ 1000 ∧ eg_run cl kY 3 (some .boolean) law_M (eg_go cl kY 3 mt n d) n (0, [some (.ref 0), none, none, none], [], eg_h0 L xs) = some (some (.int 1), h2) ∧ h2.2.1 ≤ 3 + 350723 ∧ h2.2.2 ≤ 8050080
theorem law_ret1 {M : eg_M} {pc : Nat} {la : eg_L} {st : List Value} {h : eg_H} (hr : eg_ret (some .boolean) M (pc, la, st, h) = some (some (.int 1))) : M.1 pc = some (.ireturn, 1) ∧ st = [.int 1] := by
  unfold eg_ret at hr
  dsimp only at hr
  split at hr
  · next hi =>
    split at hr
    · next h2 => cases h2
    · split at hr
      · cases hr; exact ⟨hi, rfl⟩
      · cases hr
    · cases hr
  · split at hr
    · next h2 => cases h2
    · cases hr
  · split at hr
    · next h2 => cases h2
    · next h2 => cases h2
    · next h2 => cases h2
    · next h2 => cases h2
    · cases hr
  · split at hr
    · next h2 => cases h2
    · cases hr
  · cases hr
set_option maxHeartbeats 4000000 in
/-- the tables of the law's start: TELLERS and FIXED -/
theorem law_stat {s : State} {args : Array Value} (hs : ∀ w ∈ flatC (Jvm.Cond.and given_1 narrow_1), w.before args s = true) : (∃ t : Nat, (Term.static "FrozenVolume" "TELLERS" "[I").eval args s none [] s = some (.ref t) ∧ va_T .int t 19 st_tel (fun q => s.heap.size ≤ q) s s.heap) ∧
    ∃ t : Nat, (Term.static "FrozenVolume$Inodes" "FIXED" "[I").eval args s none [] s = some (.ref t) ∧ va_T .int t 15 st_fix (fun q => s.heap.size ≤ q) s s.heap := by
  have hA : ∀ a : Nat, a < s.heap.size → ¬ (fun q => s.heap.size ≤ q) a := fun a h q => absurd h (Nat.not_lt.mpr q)
  constructor
  · refine va_Tof (by decide) (hs _ (by decide +kernel)) (va_eqt (hs _ (by decide +kernel))) (fun j hj => ?_) hA
    match j, hj with
    | 0, _ => exact va_eqt (hs _ (by decide +kernel))
    | 1, _ => exact va_eqt (hs _ (by decide +kernel))
    | 2, _ => exact va_eqt (hs _ (by decide +kernel))
    | 3, _ => exact va_eqt (hs _ (by decide +kernel))
    | 4, _ => exact va_eqt (hs _ (by decide +kernel))
    | 5, _ => exact va_eqt (hs _ (by decide +kernel))
    | 6, _ => exact va_eqt (hs _ (by decide +kernel))
    | 7, _ => exact va_eqt (hs _ (by decide +kernel))
    | 8, _ => exact va_eqt (hs _ (by decide +kernel))
    | 9, _ => exact va_eqt (hs _ (by decide +kernel))
    | 10, _ => exact va_eqt (hs _ (by decide +kernel))
    | 11, _ => exact va_eqt (hs _ (by decide +kernel))
    | 12, _ => exact va_eqt (hs _ (by decide +kernel))
    | 13, _ => exact va_eqt (hs _ (by decide +kernel))
    | 14, _ => exact va_eqt (hs _ (by decide +kernel))
    | 15, _ => exact va_eqt (hs _ (by decide +kernel))
    | 16, _ => exact va_eqt (hs _ (by decide +kernel))
    | 17, _ => exact va_eqt (hs _ (by decide +kernel))
    | 18, _ => exact va_eqt (hs _ (by decide +kernel))
    | j + 19, h => exact absurd h (by omega)
  · refine va_Tof (by decide) (hs _ (by decide +kernel)) (va_eqt (hs _ (by decide +kernel))) (fun j hj => ?_) hA
    match j, hj with
    | 0, _ => exact va_eqt (hs _ (by decide +kernel))
    | 1, _ => exact va_eqt (hs _ (by decide +kernel))
    | 2, _ => exact va_eqt (hs _ (by decide +kernel))
    | 3, _ => exact va_eqt (hs _ (by decide +kernel))
    | 4, _ => exact va_eqt (hs _ (by decide +kernel))
    | 5, _ => exact va_eqt (hs _ (by decide +kernel))
    | 6, _ => exact va_eqt (hs _ (by decide +kernel))
    | 7, _ => exact va_eqt (hs _ (by decide +kernel))
    | 8, _ => exact va_eqt (hs _ (by decide +kernel))
    | 9, _ => exact va_eqt (hs _ (by decide +kernel))
    | 10, _ => exact va_eqt (hs _ (by decide +kernel))
    | 11, _ => exact va_eqt (hs _ (by decide +kernel))
    | 12, _ => exact va_eqt (hs _ (by decide +kernel))
    | 13, _ => exact va_eqt (hs _ (by decide +kernel))
    | 14, _ => exact va_eqt (hs _ (by decide +kernel))
    | j + 15, h => exact absurd h (by omega)
set_option maxHeartbeats 4000000 in
/-- THE LAW'S WALK OUT OF ITS PURE RUN -/
theorem whole_of_pure {N : Nat} (hp : law_pure N) {p : Program} {e : Env} {s : State} {m : MethodId} {below : List Frame} {meth : Method} {c : Code} (l : Launch) {b L : Nat} {xs : Nat → Int32} (hL : L ≤ N) (C0 : lw_At p s m meth c b L xs) : W p l e room_1 s m #[Value.ref b] below meth c s.heap [] 0 0 (lw_Z below #[Value.ref b] s) (entryFrame m ([Value.ref b] : List Value).toArray 4) := by
  obtain ⟨hx, hb, hr, hml, hown, hts, hX, hbl, hlocks, hgv⟩ := C0
  have hs := flat_of_before _ hgv
  have hA : ∀ a : Nat, a < s.heap.size → ¬ (fun q => s.heap.size ≤ q) a := fun a h q => absurd h (Nat.not_lt.mpr q)
  obtain ⟨⟨t1, ht1, hT1⟩, t2, ht2, hT2⟩ := law_stat hs
  have htg : ∀ w ∈ Tg, w.before #[Value.ref b] s = true := fun w hw => hts w (List.mem_filter.mp hw).1
  have htn : ∀ w ∈ Tn, w.before #[Value.ref b] s = true := fun w hw => hts w (List.mem_append_right _ (List.mem_filter.mp hw).1)
  have hex : ∀ k : Nat, ∃ z : ClassId × (Nat → Nat), ∀ q : vw_C, cl[k]? = some q → u_Kn s q.1 q.2.1 q.2.2 z.1 z.2 := by
    intro k
    cases hq : cl[k]? with
    | none => exact ⟨(0, fun _ => 0), fun q h => by cases h⟩
    | some q =>
      obtain ⟨a1, a2, h⟩ := u_known (n := q.2.2) htg (cl_ok k q hq).1 (htg _ (cl_ok k q hq).2.2.2.1)
      exact ⟨(a1, a2), fun q2 h2 => by cases h2; exact h⟩
  obtain ⟨D, hD⟩ : ∃ D : va_G, ∀ (k : Nat) (q : vw_C), cl[k]? = some q → u_Kn s q.1 q.2.1 q.2.2 (D.1 k) (D.2 k) := ⟨(fun k => (hex k).choose.1, fun k => (hex k).choose.2), fun k q hq => (hex k).choose_spec q hq⟩
  have hK : va_K D cl [] s := ⟨hD, fun k q h => by simp at h⟩
  obtain ⟨scr, x1, x2, x3, x4, x5⟩ := hX
  obtain ⟨ce1, y1, y2, y3, y4, y5, y6, y7⟩ := hT1
  obtain ⟨ce2, z1, z2, z3, z4, z5, z6, z7⟩ := hT2
  obtain ⟨ad, e0, e1, e2, e3⟩ : ∃ ad : Nat → Nat, ad 0 = b ∧ ad 1 = t1 ∧ ad 2 = t2 ∧ ∀ k, 3 ≤ k → ad k = s.heap.size + (k - 3) :=
    ⟨fun k => if k = 0 then b else if k = 1 then t1 else if k = 2 then t2 else s.heap.size + (k - 3), rfl, rfl, rfl, fun k h => by
      show (if k = 0 then b else if k = 1 then t1 else if k = 2 then t2 else s.heap.size + (k - 3)) = _
      rw [if_neg (by omega), if_neg (by omega), if_neg (by omega)]⟩
  have l1 : t1 < s.heap.size := (Array.getElem?_eq_some_iff.mp y1).1
  have l2 : t2 < s.heap.size := (Array.getElem?_eq_some_iff.mp z1).1
  have had : eg_ad ad 3 s.heap.size := by
    intro k
    refine ⟨fun h => ?_, e3 k⟩
    have h3 : k = 0 ∨ k = 1 ∨ k = 2 := by omega
    rcases h3 with rfl | rfl | rfl
    · rw [e0]; exact hbl
    · rw [e1]; exact l1
    · rw [e2]; exact l2
  have hR : eg_R D cl ad 3 s.heap.size s (eg_h0 L xs) s.heap := by
    refine ⟨fun k x hk => ?_, rfl, Nat.le_refl 3⟩
    match k, hk with
    | 0, hk =>
      cases hk
      refine ⟨by show 0 < 3; omega, scr, by rw [e0]; exact x1, x2, x3, ⟨Nat.le_of_eq x4.symm, by rw [x4] <;> rfl⟩, x5, (fun C h => by cases h), fun j _ => rfl⟩
    | 1, hk =>
      cases hk
      refine ⟨by show 1 < 3; omega, ce1, by rw [e1]; exact y1, y2, y3, ⟨y4, y5⟩, y6, (fun C h => by cases h), fun j _ => rfl⟩
    | 2, hk =>
      cases hk
      refine ⟨by show 2 < 3; omega, ce2, by rw [e2]; exact z1, z2, z3, ⟨z4, z5⟩, z6, (fun C h => by cases h), fun j _ => rfl⟩
    | k + 3, hk => cases hk
  have hZ : ∀ z ∈ Zs.1, va_Z z.1 z.2.1 z.2.2.1 (eg_cv ad z.2.2.2) (fun q => s.heap.size ≤ q) s s.heap := by
    intro z hz
    rcases List.mem_cons.mp hz with rfl | hz
    · show va_Z "FrozenVolume" "TELLERS" "[I" (.ref (ad 1)) _ s s.heap
      rw [e1]
      exact va_Zof (hts _ (List.mem_append_right _ (List.mem_of_getElem? (i := 1015) (by decide +kernel)))) (htg _ (tg_t1 1 (by decide +kernel) rfl)) ht1 hA
    · rcases List.mem_cons.mp hz with rfl | hz
      · show va_Z "FrozenVolume$Inodes" "FIXED" "[I" (.ref (ad 2)) _ s s.heap
        rw [e2]
        exact va_Zof (hts _ (List.mem_append_right _ (List.mem_of_getElem? (i := 1292) (by decide +kernel)))) (htg _ (tg_t1 11 (by decide +kernel) rfl)) ht2 hA
      · cases hz
  have hAO : ∀ C ∈ Zs.2, va_AO C s := by
    intro C hC
    rcases List.mem_cons.mp hC with rfl | hC
    · exact va_AO.of (hts _ (List.mem_append_right _ (List.mem_of_getElem? (i := 70) (by decide +kernel))))
    · rcases List.mem_cons.mp hC with rfl | hC
      · exact va_AO.of (hts _ (List.mem_append_right _ (List.mem_of_getElem? (i := 71) (by decide +kernel))))
      · cases hC
  have X : eg_X p room_1 s m #[Value.ref b] meth c code R_law false Tg Tn cl kY Zs D ad 3 s.heap.size s.heap law_M :=
    ⟨hx, hb, hown, htg, htn, cl_ok, (fun h => by cases h), hK, had, nt_ok, ⟨hZ, hAO⟩, fun ix x h => (kq0 ix x h).1, fun pc i n h => kaL pc (i, n) h, by decide, by decide⟩
  obtain ⟨n, d, h2, hd, hrun, hc1, hc2⟩ := hp L xs hL
  obtain ⟨hl0, hlen0⟩ := eg_in0_ok (ad := ad) (as := [.ref 0]) (n := 4) (la := [some (.ref 0), none, none, none]) rfl
  rw [lg_entry_eq]
  rw [show ([Value.ref 0] : List Value).map (eg_cv ad) = [Value.ref b] by show [Value.ref (ad 0)] = _; rw [e0]] at hl0
  have hz2 : h2.2.1 - (eg_h0 L xs).2.1 ≤ 350723 := by show h2.2.1 - 3 ≤ _; omega
  have hz3 : h2.2.2 - (eg_h0 L xs).2.2 ≤ 8050080 := by show h2.2.2 - 0 ≤ _; omega
  refine eg_run_ok X (fun ix x h => (kq0 ix x h).2) Tn_nest Tg_good (fun j y hj => (mt_all j y hj).2.2.2) (eg_sound eg_all had n d) (fun j as h v h2 => eg_go_le d j as h v h2) (by show d + 1 ≤ 2048; omega) (by show 20 + 64 * d + 64 ≤ 84000; omega) n 0 _ [] _ _ h2 hrun _ _ [] 0 0 hl0 (hlen0.trans hml.symm) hR va_S.rf (by show 0 + _ ≤ 350723; omega) (by show 0 + _ ≤ 8050080; omega) ?_
  intro pc la st ls H locs hret hR9 hS9
  obtain ⟨hi, rfl⟩ := law_ret1 hret
  refine va_forget (fun q hq => hS9.2.2 q hq) ?_
  refine W.widen (k := 350723) (n := 8050080) (by omega) (by omega) ?_
  exact lw_ret hx hb hr hlocks (kaL _ _ hi)
