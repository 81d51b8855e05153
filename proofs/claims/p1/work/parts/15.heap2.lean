/-! THE PURE MACHINE, part 6: what stands fast during a method; all instructions on cells -/
def eg_X (p : Program) (R : Room) (s : State) (m : MethodId) (args : Array Value) (meth : Method) (c : Code) (cc : ByteArray) (own : String) (ini : Bool) (Ts Tn : List Cond) (cl : List vw_C) (ty : Nat → Nat → FieldType) (Zs : eg_Z) (D : va_G) (ad : Nat → Nat) (K0 base : Nat) (B : Heap) (M : eg_M) : Prop :=
  p.tables.exec = Jvm.exec ∧ c.code = cc ∧ s.vm.findClass own = some m.cls ∧ (∀ w ∈ Ts, w.before args s = true) ∧ (∀ w ∈ Tn, w.before args s = true) ∧ eg_clok Ts cl ty ∧ (ini = true → meth.name = "<init>") ∧ va_K D cl [] s ∧ eg_ad ad K0 base ∧
  (∀ t, eg_nt t = true → Cond.arrayClass (newarray.typeOf t) ∈ Ts) ∧ ((∀ z ∈ Zs.1, va_Z z.1 z.2.1 z.2.2.1 (eg_cv ad z.2.2.2) (fun q => base ≤ q) s B) ∧ ∀ C ∈ Zs.2, va_AO C s) ∧ (∀ (ix : Nat) (x : eg_E), M.2 ix = some x → eg_pok Ts Tn cl own ini Zs ix x) ∧
  (∀ (pc : Nat) (i : Instr) (n : Nat), M.1 pc = some (i, n) → decode cc pc = .ok (i, n)) ∧ 1 ≤ R.frames ∧ 84 ≤ R.locals
section EGH2
variable {p : Program} {l : Launch} {e : Env} {R : Room} {s : State} {m : MethodId} {args : Array Value} {below : List Frame} {meth : Method} {c : Code} {H : Heap} {locs : List Loc} {cells slots : Nat} {Q : State → Prop}
variable {cc : ByteArray} {pc : Nat} {ls : Array Slot} {st st2 : List Value} {ad : Nat → Nat} {D : va_G} {cl : List vw_C} {ty : Nat → Nat → FieldType} {K0 base : Nat} {h h2 : eg_H} {B : Heap} {Ts Tn : List Cond} {own : String} {ini : Bool} {Zs : eg_Z} {M : eg_M}
theorem eg_ast_cv {t : FieldType} {v : Value} (ad : Nat → Nat) (h : eg_isI v = true ∨ eg_isJ v = true) : eg_cv ad (narrow t v) = narrow t (eg_cv ad v) := by
  cases v <;> simp only [eg_isI, eg_isJ] at h <;> first | (cases t <;> rfl) | (rcases h with h | h <;> cases h)
set_option maxHeartbeats 8000000 in
/-- instructions on cells -/
theorem eg_h_ok (X : eg_X p R s m args meth c cc own ini Ts Tn cl ty Zs D ad K0 base B M) (hR : eg_R D cl ad K0 base s h H) (hS : va_S (fun q => base ≤ q) B H locs) (hml : ls.size = c.maxLocals) {i : Instr} (hd : decode cc pc = .ok (i, eg_hl i)) (hs : eg_h cl ty K0 M.2 i st h = some (st2, h2))
    (hc1 : cells + (h2.2.1 - h.2.1) ≤ R.cells) (hc2 : slots + (h2.2.2 - h.2.2) ≤ R.slots)
    (k : ∀ (H1 : Heap) (locs1 : List Loc), eg_R D cl ad K0 base s h2 H1 → va_S (fun q => base ≤ q) B H1 locs1 → W p l e R s m args below meth c H1 locs1 (cells + (h2.2.1 - h.2.1)) (slots + (h2.2.2 - h.2.2)) Q (F0 m (pc + eg_hl i) ls (st2.map (eg_cv ad)))) :
    W p l e R s m args below meth c H locs cells slots Q (F0 m pc ls (st.map (eg_cv ad))) := by
  obtain ⟨hx, hb, hown, hts, htn, hcl, hini, hK, had, hna, hZ, hpool, -, hfr, hlo⟩ := X
  have k0 : h2.2 = h.2 → ∀ (H1 : Heap) (locs1 : List Loc), eg_R D cl ad K0 base s h2 H1 → va_S (fun q => base ≤ q) B H1 locs1 → W p l e R s m args below meth c H1 locs1 cells slots Q (F0 m (pc + eg_hl i) ls (st2.map (eg_cv ad))) := by
    intro eh H1 locs1 a b
    exact W.cs (by rw [eh]; omega) (by rw [eh]; omega) (k H1 locs1 a b)
  have k1 : h2 = h → W p l e R s m args below meth c H locs cells slots Q (F0 m (pc + eg_hl i) ls (st2.map (eg_cv ad))) := by
    intro eh
    exact k0 (by rw [eh]) H locs (by rw [eh]; exact hR) hS
  cases i <;> (try (exact eg_no hs))
  case iaload => exact eg_ald_ok hR hs (fun a cell j v rest t ht c1 c2 c3 c4 c5 kk => by cases t <;> first | exact W.iald hx hb c1 c2 c3 c4 c5 rfl rfl hd kk | cases ht) k1
  case laload => exact eg_ald_ok hR hs (fun a cell j v rest t ht c1 c2 c3 c4 c5 kk => by cases t <;> first | exact W.lald hx hb c1 c2 c3 c4 c5 rfl rfl hd kk | cases ht) k1
  case baload => exact eg_ald_ok hR hs (fun a cell j v rest t ht c1 c2 c3 c4 c5 kk => by cases t <;> first | exact W.bald hx hb c1 c2 c3 c4 c5 rfl rfl hd kk | exact W.zald hx hb c1 c2 c3 c4 c5 rfl rfl hd kk | cases ht) k1
  case caload => exact eg_ald_ok hR hs (fun a cell j v rest t ht c1 c2 c3 c4 c5 kk => by cases t <;> first | exact W.cald hx hb c1 c2 c3 c4 c5 rfl rfl hd kk | cases ht) k1
  case saload => exact eg_ald_ok hR hs (fun a cell j v rest t ht c1 c2 c3 c4 c5 kk => by cases t <;> first | exact W.sald hx hb c1 c2 c3 c4 c5 rfl rfl hd kk | cases ht) k1
  case aaload => exact eg_ald_ok hR hs (fun a cell j v rest t ht c1 c2 c3 c4 c5 kk => W.aald hx hb c1 c2 ht c3 c4 c5 rfl rfl hd kk) k1
  case arraylength =>
    simp only [eg_h, eg_len] at hs
    split at hs
    · next a r =>
      split at hs
      · next x hxa =>
        cases hs
        obtain ⟨cell, c1, c2, c3, c4, -⟩ := (hR.1 a _ hxa).2
        exact W.alen hx hb c1 c2 c4.2 rfl rfl hd (k1 rfl)
      · cases hs
    · cases hs
  case iastore => exact eg_ast_ok (fun t v ht hv => eg_fit_nar (by cases t <;> first | exact Or.inl ⟨hv, Or.inl rfl⟩ | exact Or.inl ⟨hv, Or.inr (Or.inl rfl)⟩ | exact Or.inl ⟨hv, Or.inr (Or.inr (Or.inl rfl))⟩ | exact Or.inl ⟨hv, Or.inr (Or.inr (Or.inr rfl))⟩ | cases ht)) had hR hS hs (fun a cell j v rest t ht hw c1 c2 c3 c4 kk => by cases t <;> cases v <;> first | exact W.iast hx hb c1 c2 c3 c4 rfl rfl hd kk | (cases ht; done) | cases hw) (fun H1 locs1 a b eh => k0 eh H1 locs1 a b)
  case lastore => exact eg_ast_ok (fun t v ht hv => eg_fit_nar (by cases t <;> first | exact Or.inr ⟨hv, rfl⟩ | cases ht)) had hR hS hs (fun a cell j v rest t ht hw c1 c2 c3 c4 kk => by cases t <;> cases v <;> first | exact W.last hx hb c1 c2 c3 c4 rfl rfl hd kk | (cases ht; done) | cases hw) (fun H1 locs1 a b eh => k0 eh H1 locs1 a b)
  case bastore => exact eg_ast_ok (fun t v ht hv => eg_fit_nar (by cases t <;> first | exact Or.inl ⟨hv, Or.inl rfl⟩ | exact Or.inl ⟨hv, Or.inr (Or.inl rfl)⟩ | exact Or.inl ⟨hv, Or.inr (Or.inr (Or.inl rfl))⟩ | exact Or.inl ⟨hv, Or.inr (Or.inr (Or.inr rfl))⟩ | cases ht)) had hR hS hs (fun a cell j v rest t ht hw c1 c2 c3 c4 kk => by cases t <;> cases v <;> first | exact W.bast hx hb c1 c2 c3 c4 rfl rfl hd kk | exact W.zast hx hb c1 c2 c3 c4 rfl rfl hd kk | (cases ht; done) | cases hw) (fun H1 locs1 a b eh => k0 eh H1 locs1 a b)
  case sastore => exact eg_ast_ok (fun t v ht hv => eg_fit_nar (by cases t <;> first | exact Or.inl ⟨hv, Or.inl rfl⟩ | exact Or.inl ⟨hv, Or.inr (Or.inl rfl)⟩ | exact Or.inl ⟨hv, Or.inr (Or.inr (Or.inl rfl))⟩ | exact Or.inl ⟨hv, Or.inr (Or.inr (Or.inr rfl))⟩ | cases ht)) had hR hS hs (fun a cell j v rest t ht hw c1 c2 c3 c4 kk => by cases t <;> cases v <;> first | exact W.sast hx hb c1 c2 c3 c4 rfl rfl hd kk | (cases ht; done) | cases hw) (fun H1 locs1 a b eh => k0 eh H1 locs1 a b)
  case aastore => exact eg_asq_ok hx hb hK had hR hS hd hs (fun H1 locs1 a b eh => k0 eh H1 locs1 a b)
  case getfield ix => exact eg_gf_ok hx hb hts htn hcl hown hK hR (fun x hq => hpool ix x hq) hd hs k1
  case putfield ix => exact eg_pf_ok hx hb hts htn hcl hown hini hK had hR hS (fun x hq => hpool ix x hq) hd hs (fun H1 locs1 a b eh => k0 eh H1 locs1 a b)
  case new ix => exact eg_nw_ok hx hb hts hcl hown hK had hR hS (fun x hq => hpool ix x hq) hd hs hc1 hc2 k
  case newarray t =>
    simp only [eg_h] at hs
    split at hs
    · next ht => exact eg_na_ok hx hb (hts _ (hna t ht)) had hR hS hd hs hc1 hc2 k
    · cases hs
  case anewarray ix => exact eg_nq_ok hZ.2 hx hb hts hown had hR hS (fun x hq => hpool ix x hq) hd hs hc1 hc2 k
  case ldc ix =>
    simp only [eg_h, eg_kk] at hs
    split at hs
    · next x hq =>
      split at hs
      · next ht =>
        cases hs
        obtain ⟨v, hv, hw⟩ := (hpool ix x hq).1 ht
        have kk := k1 rfl
        rw [List.map_cons, hv] at kk
        exact lv_ldc hx hb hown (hts _ hw) hd kk
      · cases hs
    · cases hs
  case ldc_w ix =>
    simp only [eg_h, eg_kk] at hs
    split at hs
    · next x hq =>
      split at hs
      · next ht =>
        cases hs
        obtain ⟨v, hv, hw⟩ := (hpool ix x hq).1 ht
        have kk := k1 rfl
        rw [List.map_cons, hv] at kk
        exact lv_ldcw hx hb hown (hts _ hw) hd kk
      · cases hs
    · cases hs
  case ldc2_w ix =>
    simp only [eg_h, eg_kk] at hs
    split at hs
    · next x hq =>
      split at hs
      · next ht =>
        cases hs
        obtain ⟨v, hv, hw⟩ := (hpool ix x hq).2.1 ht
        have kk := k1 rfl
        rw [List.map_cons, hv] at kk
        exact lv_ldc2 hx hb hown (hts _ hw) hd kk
      · cases hs
    · cases hs
  case getstatic ix =>
    simp only [eg_h, eg_ks] at hs
    split at hs
    · next x hq =>
      split at hs
      · next ht =>
        cases hs
        obtain ⟨-, -, -, -, -, -, p12, -, -, -, -, -, p18, -⟩ := hpool ix x hq
        rcases ht with ht | ht
        · obtain ⟨C, n, d, hz, hw⟩ := p12 ht
          obtain ⟨cf, kf, fi, f, a, cell, g1, g2, g3, g4, g5, g6, g7, g8⟩ := hZ.1 _ hz
          exact W.gets hx hb hown (hts _ hw) g1 g2 g3 g4 (by rw [hS.2.1 a (Array.getElem?_eq_some_iff.mp g5).1 g8]; exact g5) (fun e => by rw [e] at g6; cases g6) g7 rfl hd (k1 rfl)
        · obtain ⟨C, n, d, host, hz, hw⟩ := p18 ht
          obtain ⟨cf, kf, fi, f, a, cell, g1, g2, g3, g4, g5, g6, g7, g8⟩ := hZ.1 _ hz
          exact va_WgetsN hx hb hown (htn _ hw) g1 g2 g3 g4 (by rw [hS.2.1 a (Array.getElem?_eq_some_iff.mp g5).1 g8]; exact g5) (fun e => by rw [e] at g6; cases g6) g7 rfl hd (k1 rfl)
      · cases hs
    · cases hs
  case invokespecial ix =>
    simp only [eg_h, eg_oi] at hs
    split at hs
    · next x hq =>
      split at hs
      · next ht =>
        split at hs
        · next a r =>
          split at hs
          · next hsum =>
            cases hs
            obtain ⟨-, -, -, -, -, -, -, p13, -⟩ := hpool ix x hq
            obtain ⟨w1, w2, w3⟩ := p13 ht
            have hsum2 : ((st2.map (eg_cv ad)).map fun v => v.category).sum ≤ 8 := by
              rw [List.map_map]
              have : ((fun v : Value => v.category) ∘ eg_cv ad) = fun v => v.category := by funext v; exact eg_cv_cat ad v
              rw [this]; exact hsum
            have hroom : 2 * (F0 m pc ls ((Value.ref a :: st2).map (eg_cv ad))).monitorRoom + ((st2.map (eg_cv ad)).map fun v => v.category).sum ≤ 8 := lv_room hsum2
            exact W.objInit hx hb hown (hts _ w1) (hts _ w2) (hts _ w3) rfl hml rfl hd hfr (by omega) (k1 rfl)
          · cases hs
        · cases hs
      · cases hs
    · cases hs
  case invokestatic ix =>
    simp only [eg_h, eg_is] at hs
    split at hs
    · next r hr =>
      cases hs
      exact eg_mm_ok hx hb hts hown hfr hlo hml (by omega) (by omega) (fun x hq => hpool ix x hq) hd hr k1
    · exact eg_cp_ok hx hb hts hown hfr hlo hml hK had hR hS (fun x hq => hpool ix x hq) hd hs (fun H1 locs1 a b eh => k0 eh H1 locs1 a b)
end EGH2
