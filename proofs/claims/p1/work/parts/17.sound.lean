/-! THE PURE MACHINE, part 8: whatever it does, the machine of the bytecode does -/
/-- the world at a method's start -/
def eg_PU (D : va_G) (cl : List vw_C) (ad : Nat → Nat) (K0 base : Nat) (B : Heap) (Tn : List Cond) (Zs : eg_Z) (h : eg_H) (U : State) : Prop :=
  eg_R D cl ad K0 base U h U.heap ∧ va_S (fun q => base ≤ q) B U.heap [] ∧ va_K D cl [] U ∧ (∀ w ∈ Tn, va_Nw w U) ∧ (∀ z ∈ Zs.1, va_Z z.1 z.2.1 z.2.2.1 (eg_cv ad z.2.2.2) (fun q => base ≤ q) U B) ∧ ∀ C ∈ Zs.2, va_AO C U
def eg_Pc (D : va_G) (cl : List vw_C) (ad : Nat → Nat) (K0 base : Nat) (B : Heap) (Tn : List Cond) (Zs : eg_Z) (as : List Value) (h : eg_H) : Array Value → State → Prop := fun a U => a = (as.map (eg_cv ad)).toArray ∧ eg_PU D cl ad K0 base B Tn Zs h U
def eg_Qc (D : va_G) (cl : List vw_C) (ad : Nat → Nat) (K0 base : Nat) (B : Heap) (v : Option Value) (h2 : eg_H) : Array Value → State → Outcome → State → Prop := fun _ _ oc t => oc = .returned (v.map (eg_cv ad)) ∧ eg_R D cl ad K0 base t h2 t.heap ∧ va_S (fun q => base ≤ q) B t.heap []
/-- a call of a method of the table can be made: its code, and so on -/
def eg_cal (Tg : List Cond) (y : eg_D) (n : Nat) : Prop := Cond.code y.1 y.2.1 y.2.2.1 y.2.2.2.1 ∈ Tg ∧ Cond.initialized y.1.cls ∈ Tg ∧ (y.1.cls ≠ "java/lang/invoke/MethodHandle" ∧ y.1.cls ≠ "java/lang/invoke/VarHandle") ∧ (parseMethodDescriptor y.1.desc).map (fun d => d.parameters.length) = some n
def eg_pokc (Tg Tn : List Cond) (cl : List vw_C) (mt : Nat → Option eg_D) (own : String) (ix : Nat) (q : eg_E) : Prop :=
  (q.1 = 5 → ∃ y, mt q.2.1 = some y ∧ eg_cal Tg y q.2.2.1 ∧ y.1.name = "<init>" ∧ y.2.2.2.1 = none ∧ Cond.methodLink own ix y.1 ∈ Tg ∧ Cond.instanceMethod y.1 ∈ Tg) ∧
  (q.1 = 6 → ∃ y z ci, mt q.2.1 = some y ∧ eg_cal Tg y q.2.2.1 ∧ Cond.methodLink own ix y.1 ∈ Tg ∧ Cond.instanceMethod y.1 ∈ Tg ∧ Cond.selects y.1.cls y.1 y.1 ∈ Tg ∧ q.2.2.2 = .ref ci ∧ cl[ci]? = some z ∧ z.1 = y.1.cls) ∧
  (q.1 = 7 → ∃ y, mt q.2.1 = some y ∧ eg_cal Tg y q.2.2.1 ∧ Cond.methodLink own ix y.1 ∈ Tg ∧ Cond.static y.1 ∈ Tg) ∧
  (q.1 = 8 → ∃ y z ci host, mt q.2.1 = some y ∧ eg_cal Tg y q.2.2.1 ∧ Cond.methodLinkNest own ix y.1 host ∈ Tn ∧ Cond.instanceMethod y.1 ∈ Tg ∧ Cond.selects y.1.cls y.1 y.1 ∈ Tg ∧ q.2.2.2 = .ref ci ∧ cl[ci]? = some z ∧ z.1 = y.1.cls) ∧
  (q.1 = 9 → ∃ y host, mt q.2.1 = some y ∧ eg_cal Tg y q.2.2.1 ∧ Cond.methodLinkNest own ix y.1 host ∈ Tn ∧ Cond.static y.1 ∈ Tg) ∧
  (q.1 = 10 → ∃ y host, mt q.2.1 = some y ∧ eg_cal Tg y q.2.2.1 ∧ y.1.name = "<init>" ∧ y.2.2.2.1 = none ∧ Cond.methodLinkNest own ix y.1 host ∈ Tn ∧ Cond.instanceMethod y.1 ∈ Tg)
theorem eg_Pc_blind {D : va_G} {cl : List vw_C} {ad : Nat → Nat} {K0 base : Nat} {B : Heap} {Tn : List Cond} {Zs : eg_Z} {as : List Value} {h : eg_H} (hTn : ∀ w ∈ Tn, w.onTables = true) : FrameBlind (eg_Pc D cl ad K0 base B Tn Zs as h) := by
  intro a U g mk q
  obtain ⟨q0, q1, q2, q3, q4, q5⟩ := q
  exact ⟨q0, q1.moved (u := U) (U := U.calling g mk a) (Vm.Alike.refl U.vm), q2, va_K.moved (u := U) (U := U.calling g mk a) (Vm.Alike.refl U.vm) q3, fun w hw => va_Nw.same (u := U) (U := U.calling g mk a) (hTn w hw) rfl (q4 w hw), fun z hz => va_Z.moved (u := U) (U := U.calling g mk a) (Vm.Alike.refl U.vm) (q5.1 z hz), fun C hC => va_AO.moved (u := U) (U := U.calling g mk a) (Vm.Alike.refl U.vm) (q5.2 C hC)⟩
/-- words of nest mates -/
def eg_nw2 (w : Cond) : Prop := (∃ a i b n d h, w = .fieldLinkNest a i b n d h) ∨ ∃ a i x h, w = .methodLinkNest a i x h
theorem eg_nw2.tab {w : Cond} (h : eg_nw2 w) : w.onTables = true := by
  rcases h with ⟨a, i, b, n, d, h, rfl⟩ | ⟨a, i, x, h, rfl⟩ <;> rfl
theorem eg_nw2.warm {w : Cond} (h : eg_nw2 w) {s U : State} (hW : s.WarmedH U.vm) (hz : va_Nw w s) : va_Nw w U := by
  rcases h with ⟨a, i, b, n, d, h, rfl⟩ | ⟨a, i, x, h, rfl⟩
  · exact hz.warmF hW
  · exact hz.warmM hW
section EGS
variable {p : Program} {l : Launch} {e : Env} {R : Room} {s : State} {m : MethodId} {args : Array Value} {below : List Frame} {meth : Method} {c : Code} {H : Heap} {locs : List Loc} {cells slots : Nat} {Q : State → Prop}
variable {cc : ByteArray} {pc : Nat} {ls : Array Slot} {st st2 st0 rest : List Value} {ad : Nat → Nat} {D : va_G} {cl : List vw_C} {ty : Nat → Nat → FieldType} {K0 base : Nat} {h h2 : eg_H} {B : Heap} {Ts Tn : List Cond} {own : String} {ini : Bool} {Zs : eg_Z} {M : eg_M} {mt : Nat → Option eg_D}
theorem eg_call_fin {mc ms : Nat} {v : Option Value} {a : Array Value} (hr : va_Run p l e R s m args below meth c H locs cells slots mc ms (F0 m pc ls st0) rest (eg_Qc D cl ad K0 base B v h2 a) (fun q => base ≤ q)) (hS : va_S (fun q => base ≤ q) B H locs)
    (k : ∀ (H1 : Heap) (locs1 : List Loc), eg_R D cl ad K0 base s h2 H1 → va_S (fun q => base ≤ q) B H1 locs1 → W p l e R s m args below meth c H1 locs1 (cells + mc) (slots + ms) Q (F0 m (pc + 3) ls ((v.map (eg_cv ad)).toList ++ rest))) : W p l e R s m args below meth c H locs cells slots Q (F0 m pc ls st0) := by
  intro T hT X
  obtain ⟨v9, st₀, t, T', L, h0, X', hL, e1, e2, ⟨hv, hq1, hq2⟩, st⟩ := hr T hT X
  have hv2 : v9 = v.map (eg_cv ad) := Outcome.returned.inj hv
  subst hv2
  have hvm : t.vm.Alike s.vm := by rw [← e2]; exact X'.warmed.alike.symm
  obtain ⟨t2, a1, b1⟩ := k T'.heap (locs ++ L) (by rw [e1]; exact hq1.moved hvm) ⟨by rw [e1]; exact hq2.1, fun q g1 g2 => by rw [e1]; exact hq2.2.1 q g1 g2, fun q hq => by
    rcases List.mem_append.mp hq with z | z
    · exact hS.2.2 q z
    · exact hL q z⟩ T' rfl X'
  exact ⟨t2, st t2 a1, b1⟩
/-- the contract of a method of the table at one start -/
def eg_Met (l : Launch) (D : va_G) (cl : List vw_C) (ad : Nat → Nat) (K0 base : Nat) (B : Heap) (Tg Tn : List Cond) (Zs : eg_Z) (rf rl : Nat) (y : eg_D) (as : List Value) (h : eg_H) (v : Option Value) (h2 : eg_H) : Prop :=
  Met l y.1 (Cond.code y.1 y.2.1 y.2.2.1 y.2.2.2.1 :: Tg) { frames := rf, cells := h2.2.1 - h.2.1, slots := h2.2.2 - h.2.2, locals := rl } (eg_Pc D cl ad K0 base B Tn Zs as h) (eg_Qc D cl ad K0 base B v h2) (h2.2.1 - h.2.1) (h2.2.2 - h.2.2) (fun q => base ≤ q)
theorem eg_sum_cv (ad : Nat → Nat) (r : List Value) (h : eg_sum r ≤ 8) : ((r.map (eg_cv ad)).map fun v => v.category).sum ≤ 8 := by
  rw [List.map_map]
  have e1 : ((fun v : Value => v.category) ∘ eg_cv ad) = fun v => v.category := by funext v; exact eg_cv_cat ad v
  rw [e1]; exact h
theorem eg_tk {n : Nat} (hn : n ≤ st.length) : ((st.take n).reverse.map (eg_cv ad)).length = n ∧ st.map (eg_cv ad) = ((st.take n).reverse.map (eg_cv ad)).reverse ++ (st.drop n).map (eg_cv ad) := by
  refine ⟨by simp [hn], ?_⟩
  rw [← List.map_reverse, List.reverse_reverse, ← List.map_append, List.take_append_drop]
theorem eg_ret_map (v : Option Value) (r : List Value) : (v.toList ++ r).map (eg_cv ad) = (v.map (eg_cv ad)).toList ++ r.map (eg_cv ad) := by
  cases v <;> rfl
set_option maxHeartbeats 8000000 in
/-- calls -/
theorem eg_c_ok {f : eg_F} {rf rl : Nat} (X : eg_X p R s m args meth c cc own ini Ts Tn cl ty Zs D ad K0 base B M) (hpc : ∀ (ix : Nat) (x : eg_E), M.2 ix = some x → eg_pokc Ts Tn cl mt own ix x)
    (hTn : ∀ w ∈ Tn, eg_nw2 w) (hgood : ∀ w ∈ Ts, ((w.onTables && w.keeps) = true ∨ ∃ ty, w = .arrayClass ty)) (hmx : ∀ j y, mt j = some y → y.2.2.1 ≤ 45)
    (hf : ∀ j as h v h2, f j as h = some (v, h2) → ∀ y, mt j = some y → eg_Met l D cl ad K0 base B Ts Tn Zs rf rl y as h v h2) (hrf : rf + 1 ≤ R.frames) (hrl : rl + 64 ≤ R.locals)
    (hR : eg_R D cl ad K0 base s h H) (hS : va_S (fun q => base ≤ q) B H locs) (hml : ls.size = c.maxLocals) {i : Instr} (hd : decode cc pc = .ok (i, 3)) (hs : eg_c M.2 f i st h = some (st2, h2))
    (hc1 : cells + (h2.2.1 - h.2.1) ≤ R.cells) (hc2 : slots + (h2.2.2 - h.2.2) ≤ R.slots)
    (k : ∀ (H1 : Heap) (locs1 : List Loc), eg_R D cl ad K0 base s h2 H1 → va_S (fun q => base ≤ q) B H1 locs1 → W p l e R s m args below meth c H1 locs1 (cells + (h2.2.1 - h.2.1)) (slots + (h2.2.2 - h.2.2)) Q (F0 m (pc + 3) ls (st2.map (eg_cv ad)))) :
    W p l e R s m args below meth c H locs cells slots Q (F0 m pc ls (st.map (eg_cv ad))) := by
  obtain ⟨hx, hb, hown, hts, htn, hcl, hini, hK, had, hna, hZ, hpool, -, hfr, hlo⟩ := X
  have hgi : ∀ y : eg_D, Cond.code y.1 y.2.1 y.2.2.1 y.2.2.2.1 ∈ Ts → GoodIn Ts (Cond.code y.1 y.2.1 y.2.2.1 y.2.2.2.1 :: Ts) := by
    intro y hy w hw
    rcases List.mem_cons.mp hw with rfl | hw
    · exact ⟨hy, hgood _ hy⟩
    · exact ⟨hw, hgood w hw⟩
  have hpre : ∀ (as : List Value) (U : State), U.heap = H → s.WarmedH U.vm → eg_Pc D cl ad K0 base B Tn Zs as h (as.map (eg_cv ad)).toArray U := by
    intro as U hU hW
    refine ⟨rfl, ?_, ?_, va_K.moved hW.alike hK, fun w hw => (hTn w hw).warm hW (va_Nw.of (hTn w hw).tab (htn w hw)), fun z hz => va_Z.moved hW.alike (hZ.1 z hz), fun C hC => va_AO.moved hW.alike (hZ.2 C hC)⟩
    · rw [hU]; exact hR.moved hW.alike
    · rw [hU]; exact ⟨hS.1, hS.2.1, fun _ q => by cases q⟩
  have hbl : ∀ as : List Value, FrameBlind (eg_Pc D cl ad K0 base B Tn Zs as h) := fun as => eg_Pc_blind (fun w hw => (hTn w hw).tab)
  cases i <;> (try (exact eg_no hs))
  case invokestatic ix =>
    simp only [eg_c] at hs
    split at hs
    · next q hq =>
      split at hs
      · next hc =>
        obtain ⟨ht, hn, hsum⟩ := hc
        unfold eg_back at hs
        split at hs
        · next z hz =>
          cases hs
          obtain ⟨v, h9⟩ := z
          obtain ⟨e1, e2⟩ := eg_tk (ad := ad) hn
          rw [eg_ret_map] at k
          obtain ⟨-, -, p7, -, p9, -⟩ := hpc ix q hq
          rcases ht with t | t
          · obtain ⟨y, hy, ⟨w1, w2, w3, w4⟩, w5, w6⟩ := p7 t
            have hmx1 := hmx _ _ hy
            refine eg_call_fin (va_runS (rest := (st.drop q.2.2.1).map (eg_cv ad)) ⟨hx, hb, rfl, hown, hts⟩ (hf _ _ _ _ _ hz y hy) ⟨callB_of _ hts (hgi y w1) rfl rfl rfl (hts _ w2) (hts _ w5) ⟨w3.1, w3.2, w4⟩ ⟨hrf, by show 8 + (y.2.2.1 + 11) + rl ≤ R.locals; omega⟩, hts _ w6⟩ ⟨hbl _, hpre _⟩ rfl e1 hml e2 (lv_room (eg_sum_cv ad _ hsum)) hd ⟨hc1, hc2⟩) hS k
          · obtain ⟨y, host, hy, ⟨w1, w2, w3, w4⟩, w5, w6⟩ := p9 t
            have hmx1 := hmx _ _ hy
            refine eg_call_fin (va_runSN (rest := (st.drop q.2.2.1).map (eg_cv ad)) ⟨hx, hb, rfl, hown, hts⟩ (hf _ _ _ _ _ hz y hy) ⟨va_cnB _ hts (hgi y w1) rfl rfl rfl (va_Nw.of rfl (htn _ w5)) (hts _ w2) ⟨w3.1, w3.2, w4⟩ ⟨hrf, by show 8 + (y.2.2.1 + 11) + rl ≤ R.locals; omega⟩, hts _ w6, trivial⟩ ⟨hbl _, hpre _⟩ rfl e1 hml e2 (lv_room (eg_sum_cv ad _ hsum)) hd ⟨hc1, hc2⟩) hS k
        · cases hs
      · cases hs
    · cases hs
  case invokevirtual ix =>
    simp only [eg_c] at hs
    split at hs
    · next q hq =>
      split at hs
      · next hc =>
        obtain ⟨ht, hn⟩ := hc
        split at hs
        · next a r hdr =>
          split at hs
          · next o ho =>
            split at hs
            · next hc3 =>
              obtain ⟨hqo, hsum⟩ := hc3
              unfold eg_back at hs
              split at hs
              · next z hz =>
                cases hs
                obtain ⟨v, h9⟩ := z
                obtain ⟨e1, e2⟩ := eg_tk (ad := ad) hn
                rw [hdr] at e2
                rw [eg_ret_map] at k
                obtain ⟨r0, hr0, cell, q1, q2, q3, -⟩ := (hR.1 a _ ho).2
                have hfc := (hK.1 o.1 _ hr0).2.1
                obtain ⟨-, p6, -, p8, -⟩ := hpc ix q hq
                rcases ht with t | t
                · obtain ⟨y, zz, ci, hy, ⟨w1, w2, w3, w4⟩, w5, w6, w7, w8, w9, w10⟩ := p6 t
                  have hmx1 := hmx _ _ hy
                  have hco : ci = o.1 := by rw [w8] at hqo; exact Value.ref.inj hqo
                  subst hco
                  have hzz : zz = r0 := Option.some.inj (w9.symm.trans hr0)
                  subst hzz
                  refine eg_call_fin (va_runV (C := y.1.cls) (rest := r.map (eg_cv ad)) ⟨hx, hb, rfl, hown, hts⟩ (hf _ _ _ _ _ hz y hy) ⟨callB_of _ hts (hgi y w1) rfl rfl rfl (hts _ w2) (hts _ w5) ⟨w3.1, w3.2, w4⟩ ⟨hrf, by show 8 + (y.2.2.1 + 11) + rl ≤ R.locals; omega⟩, hts _ w6, hts _ w7⟩ ⟨hbl _, ⟨cell, q1, by rw [q3]; rfl, by rw [← w10, q2]; exact hfc⟩, hpre (.ref a :: (st.take q.2.2.1).reverse)⟩ rfl e1 hml e2 (lv_room (eg_sum_cv ad _ hsum)) hd ⟨hc1, hc2⟩) hS k
                · obtain ⟨y, zz, ci, host, hy, ⟨w1, w2, w3, w4⟩, w5, w6, w7, w8, w9, w10⟩ := p8 t
                  have hmx1 := hmx _ _ hy
                  have hco : ci = o.1 := by rw [w8] at hqo; exact Value.ref.inj hqo
                  subst hco
                  have hzz : zz = r0 := Option.some.inj (w9.symm.trans hr0)
                  subst hzz
                  refine eg_call_fin (va_runVN (C := y.1.cls) (rest := r.map (eg_cv ad)) ⟨hx, hb, rfl, hown, hts⟩ (hf _ _ _ _ _ hz y hy) ⟨va_cnB _ hts (hgi y w1) rfl rfl rfl (va_Nw.of rfl (htn _ w5)) (hts _ w2) ⟨w3.1, w3.2, w4⟩ ⟨hrf, by show 8 + (y.2.2.1 + 11) + rl ≤ R.locals; omega⟩, hts _ w6, hts _ w7⟩ ⟨hbl _, ⟨cell, q1, by rw [q3]; rfl, by rw [← w10, q2]; exact hfc⟩, hpre (.ref a :: (st.take q.2.2.1).reverse)⟩ rfl e1 hml e2 (lv_room (eg_sum_cv ad _ hsum)) hd ⟨hc1, hc2⟩) hS k
              · cases hs
            · cases hs
          · cases hs
        · cases hs
      · cases hs
    · cases hs
  case invokespecial ix =>
    simp only [eg_c] at hs
    split at hs
    · next q hq =>
      split at hs
      · next hc =>
        obtain ⟨ht, hn⟩ := hc
        split at hs
        · next a r hdr =>
          split at hs
          · next hsum =>
            unfold eg_back at hs
            split at hs
            · next z hz =>
              cases hs
              obtain ⟨v, h9⟩ := z
              obtain ⟨e1, e2⟩ := eg_tk (ad := ad) hn
              rw [hdr] at e2
              rw [eg_ret_map] at k
              obtain ⟨p5, -, -, -, -, p10⟩ := hpc ix q hq
              rcases ht with t | t
              · obtain ⟨y, hy, ⟨w1, w2, w3, w4⟩, w5, w6, w7, w8⟩ := p5 t
                have hmx1 := hmx _ _ hy
                obtain ⟨yn, yb, yl, yr, yM⟩ := y
                dsimp only at w1 w2 w3 w4 w5 w6 w7 w8 hmx1
                subst w6
                refine eg_call_fin (va_runI (rest := r.map (eg_cv ad)) ⟨hx, hb, rfl, hown, hts⟩ (hf _ _ _ _ _ hz _ hy) ⟨callB_of _ hts (hgi (yn, yb, yl, none, yM) w1) rfl rfl rfl (hts _ w2) (hts _ w7) ⟨w3.1, w3.2, w4⟩ ⟨hrf, by show 8 + (yl + 11) + rl ≤ R.locals; omega⟩, w5, hts _ w8⟩ ⟨hbl _, hpre (.ref a :: (st.take q.2.2.1).reverse)⟩ rfl e1 hml e2 (lv_room (eg_sum_cv ad _ hsum)) hd ⟨hc1, hc2⟩) hS k
              · obtain ⟨y, host, hy, ⟨w1, w2, w3, w4⟩, w5, w6, w7, w8⟩ := p10 t
                have hmx1 := hmx _ _ hy
                obtain ⟨yn, yb, yl, yr, yM⟩ := y
                dsimp only at w1 w2 w3 w4 w5 w6 w7 w8 hmx1
                subst w6
                refine eg_call_fin (va_runIN (rest := r.map (eg_cv ad)) ⟨hx, hb, rfl, hown, hts⟩ (hf _ _ _ _ _ hz _ hy) ⟨va_cnB _ hts (hgi (yn, yb, yl, none, yM) w1) rfl rfl rfl (va_Nw.of rfl (htn _ w7)) (hts _ w2) ⟨w3.1, w3.2, w4⟩ ⟨hrf, by show 8 + (yl + 11) + rl ≤ R.locals; omega⟩, w5, hts _ w8⟩ ⟨hbl _, hpre (.ref a :: (st.take q.2.2.1).reverse)⟩ rfl e1 hml e2 (lv_room (eg_sum_cv ad _ hsum)) hd ⟨hc1, hc2⟩) hS k
            · cases hs
          · cases hs
        · cases hs
      · cases hs
    · cases hs
end EGS
