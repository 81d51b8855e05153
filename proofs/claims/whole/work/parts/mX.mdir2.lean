/-! FREEZING: a directory with all below it, the reference -/
section MDIR2
variable {d nx zl : Nat} {sh : Nat → Option Shp} {M0 : FM} {op : Int} {B : Nat} {L ids : List Int} {D : DS}
theorem drF_b {M M2 : FM} {x : Int} (h : biF M M2 x) (hx : 0 ≤ M2 234 x) : drF M M2 := ⟨fun c h1 h2 h3 h4 => h.1 c h1 h2 (by omega) h3 (by omega), fun i h1 h2 h3 h4 _ => h.2.1 i h1 h2 h3 h4, fun y hy => by
  by_cases e : y = x
  · rw [e]
    exact hx
  · rw [h.2.2 y e]
    exact hy⟩
theorem drF_l {M M2 : FM} (h : mlF M M2) : drF M M2 := ⟨fun c h1 h2 h3 h4 => h.1 c h1 h2 (by omega) (by omega), fun i h1 h2 h3 _ h5 => h.2 i h1 h2 h3 h5, fun y hy => by rw [h.1 234 (by omega) (by omega) (by omega) (by omega)]; exact hy⟩
theorem doDir_Y (hT : treeR sh M0) (hs : sxC M0 op B L ids D) : ∀ (f : Nat) (x δ : Int) (a : Nat) (M : FM) (o : Option RS) (K : Option TV → FH → Prop), x ∈ L → M0 171 x = 1 → M0 11 x = a → M0 a 4 = δ → (f : Int) + δ = 101 → (x = 0 ∨ M0 178 x ∈ L) → rxC M0 M op L ids D → rjS M0 M (1 - op % 2) L o → (∀ M2 : FM, drF M M2 → rxC M0 M2 op L ids D → rjS M0 M2 (1 - op % 2) L (rsD M0 (1 - op % 2) ids L D f x o) → 0 ≤ M2 234 x → K none (sh, M2, nx, zl)) → fm_Y (d + f + 22) 303 [.ref 168, .int (Int32.ofInt x)] (sh, M, nx, zl) K := by
  intro f
  induction f with
  | zero =>
    intro x δ a M o K hx h1 ha hδ hf
    obtain ⟨a2, h9, t9, ea, hS, ha3, hE, -, -, hD⟩ := nd_of hT (hs.2.2.2.1.2 x hx)
    have ea2 : a2 = a := by omega
    rw [ea2] at hD
    have := (hD.2 h1).1
    omega
  | succ f IH =>
    intro x δ a M o K hx h1 ha hδ hf hpa hr hJ k
    have hs0 := hs
    obtain ⟨hW, hop, hB, hP, ⟨-, hcl⟩, -, -, -⟩ := hs
    obtain ⟨e, he⟩ : ∃ e : Nat, e = d + f := ⟨_, rfl⟩
    rw [show d + (f + 1) + 22 = e + 23 by omega]
    rw [← he] at IH
    have xr := (hP.2 x hx).1
    have n20 := hW.2.2.2.1.1
    have nN := hW.1.1
    have er := fe_r hW x
    have LL := nuP_len hW hP
    obtain ⟨z, hzz⟩ : ∃ z : Int, z = 1 - op % 2 := ⟨_, rfl⟩
    rw [← hzz] at hJ k IH
    have lead : ∀ j : Nat, j < ec M0 x → (0 < M0 184 (fe M0 x + j) ∧ M0 184 (fe M0 x + j) < 2000) ∧ M0 184 (fe M0 x + j) ∈ L := fun j hj => by
      have l := ent_live hW (k := fe M0 x + j) (by omega) (by omega)
      exact ⟨by omega, hcl x hx j hj⟩
    -- the end of it
    have END : ∀ (M1 : FM) (o2 : Option RS), drF M M1 → rxC M0 M1 op L ids D → rjS M0 M1 z L o2 → (∀ t : Nat, t < ec M0 x → 0 ≤ M1 234 (M0 184 (fe M0 x + t))) → rsF M0 z ids L x o2 = rsD M0 z ids L D (f + 1) x o → (o_al 0 (o_get 12 84 84 (o_get 14 1 1 (o_is 5 (o_al 0 (o_il 2 (o_il 3 (o_callv (e + 22) 308 2 12 (o_al 0 (o_get 12 84 84 (o_get 14 1 1 (o_il 5 (o_isub (o_ic 3 (o_iadd (o_is 6 (o_al 0 (o_get 12 86 86 (o_if .gt (b303_148 (e + 22) (fW (e + 22) kd303 K) K) (o_il 6 (o_ic 65535 (o_icmp .le (b303_152 (e + 22) (fW (e + 22) kd303 K) K) (b303_148 (e + 22) (fW (e + 22) kd303 K) K)))))))))))))))))))))) : FC) [some (fx 168), some (ti x), some (ti (fe M0 x)), some (ti (fe M0 x + ec M0 x)), some (ti (2 + foN M0 (fe M0 x) (ec M0 x))), some (ti (fe M0 x + ec M0 x)), none, none, none, none] [] (sh, M1, nx, zl) := by
      intro M1 o2 f1 r1 J1 p1 hD1
      obtain ⟨I, Q, ⟨hI, hQ⟩, hr1, hn1, ho1⟩ := J1
      have sI := mr_size hI
      have sQ := mr_size hQ
      have r214 := r1.2.2.1.2
      have hb : rgB M0 M1 x := fun j hj => by
        have l := lead j hj
        have b := hr1 _ l.2
        have p := p1 j hj
        have s := mr_st hI p b.2
        have nr := nuO_r l.2
        rw [← r214 _ l.2] at nr
        exact ⟨by omega, by omega, by omega⟩
      have hQ' := hQ
      rw [hzz] at hQ'
      refine mputListing_Y (d := e) hW r1.1 hop r1.2.1 hb hQ' (fun M2 j f2 hj w2 hfull x8 xb xA => ?_)
      rw [← hzz] at w2 hfull x8 xb xA
      obtain ⟨g, hg⟩ : ∃ g : Nat → ENt, g = rgE M0 M1 x := ⟨_, rfl⟩
      rw [← hg] at w2 hfull x8 xb xA
      obtain ⟨X, hX⟩ : ∃ X, X = lX (lsS z g Q j) := ⟨_, rfl⟩
      obtain ⟨Q', hQ''⟩ : ∃ Q', Q' = lsC g (lsS z g Q j) := ⟨_, rfl⟩
      rw [← hX] at x8 xb xA
      rw [← hQ''] at w2 hfull
      have s2 := mr_size w2
      obtain ⟨Z, hZ⟩ := lsC_pre z g Q j
      rw [← hQ''] at hZ
      have lZ : Q'.length = Q.length + Z.length := by rw [hZ, List.length_append]
      have f12 := drF_l f2
      have id2 : rdI M2 ids := by
        have := r1.2.2.2.1
        unfold rdI at *
        rw [f2.2 66 (by decide) (by decide) (by decide) (by decide), f2.1 215 (by omega) (by omega) (by omega) (by omega)]
        exact this
      have r2 := rxC_d r1 f12 id2
      have e226 : ∀ c : Nat, 226 ≤ c → c ≤ 229 → M2 c = M1 c := fun c c1 c2 => f2.1 c (by omega) (by omega) (by omega) (by omega)
      have hI2 : mrO M2 226 227 228 229 z I := mrO_F hI (e226 226 (by omega) (by omega)) (e226 227 (by omega) (by omega)) (e226 228 (by omega) (by omega)) (e226 229 (by omega) (by omega))
      have e234 : M2 234 = M1 234 := f2.1 234 (by omega) (by omega) (by omega) (by omega)
      have st := mr_st w2 (p := M1 230 1) (by omega) (by omega)
      have fo := foN_r M0 (fe M0 x) (ec M0 x)
      have x86 := xA.1
      -- whether more is told
      have B153 : ∀ e3 : Int, (e3 = 1 ∧ (0 < (X.length : Int) ∨ 65535 < M2 230 1 - M1 230 1 + 3) ∨ e3 = 0 ∧ ¬ (0 < (X.length : Int) ∨ 65535 < M2 230 1 - M1 230 1 + 3)) → b303_153 (e + 22) (fW (e + 22) kd303 K) K [some (fx 168), some (ti x), some (ti (fe M0 x)), some (ti (fe M0 x + ec M0 x)), some (ti (2 + foN M0 (fe M0 x) (ec M0 x))), some (ti (M1 230 1)), some (ti (M2 230 1 - M1 230 1 + 3)), none, none, none] [ti e3] (sh, M2, nx, zl) := by
        intro e3 h3
        have hI2' := hI2
        rw [hzz] at hI2'
        refine mdirI_Y (d := e) (g := g) (X := X) (R := I) hs0 r2 hx hpa (by omega) (by omega) (by omega) (by omega) x8 xb xA (fun t => by rw [hg]; rfl) h3 hI2' (fun M3 f3 g3 id3 w3 => ?_)
        rw [← hzz] at w3
        obtain ⟨Y, hY⟩ : ∃ Y, Y = fdB (cmR M0 ids L x) X.length (M2 230 1 - M1 230 1 + 3) (M2 232 (M1 230 1 / 8192)) (M1 230 1 % 8192) (paN M0 L x) (2 + foN M0 (fe M0 x) (ec M0 x)) (ixL g X) := ⟨_, rfl⟩
        rw [← hY] at w3
        have p3 : 0 ≤ M3 234 x := by
          rw [g3, e226 226 (by omega) (by omega)]
          omega
        have f23 := drF_b f3 p3
        have hQ3 : mrO M3 230 231 232 233 z Q' := mrO_F w2 (f3.1 230 (by omega) (by omega) (by omega) (by omega) (by omega)) (f3.1 231 (by omega) (by omega) (by omega) (by omega) (by omega)) (f3.1 232 (by omega) (by omega) (by omega) (by omega) (by omega)) (f3.1 233 (by omega) (by omega) (by omega) (by omega) (by omega))
        refine k M3 (drF_t f1 (drF_t f12 f23)) (rxC_d r2 f23 id3) ?_ p3
        rw [← hD1]
        -- the same entries
        have G : ∀ s : RS, o2 = some s → ∀ t : Nat, t < ec M0 x → g t = ngE M0 z L s x t := fun s hs t ht => by
          obtain ⟨⟨a1, a2⟩, ⟨a3, a4⟩, a5, a6⟩ := ho1 s hs
          have l := lead t ht
          have v := a5 _ l.2
          have p := p1 t ht
          have b := hr1 _ l.2
          have s := mr_st hI p b.2
          rw [List.take_of_length_le (by omega), a1] at s
          rw [hg]
          unfold rgE ngE
          rw [r214 _ l.2, s.1, v]
        have LS : ∀ s : RS, o2 = some s → lsS z g (rQ s) (ec M0 x) = ngT M0 z L s x ∧ lsC g (ngT M0 z L s x) = lsC (ngE M0 z L s x) (ngT M0 z L s x) := fun s hs => lsS_cg z (rQ s) (ec M0 x) (G s hs)
        obtain ⟨oL, hoL⟩ : ∃ oL : Option RS, oL = o2.bind (fun s => if (lsC (ngE M0 z L s x) (ngT M0 z L s x)).length ≤ 65536 then some (rI s, lsC (ngE M0 z L s x) (ngT M0 z L s x), rP s) else none) := ⟨_, rfl⟩
        -- a listing that fits is whole
        have WH : ∀ s : RS, o2 = some s → (lsC (ngE M0 z L s x) (ngT M0 z L s x)).length ≤ 65536 → j = ec M0 x ∧ Q' = lsC (ngE M0 z L s x) (ngT M0 z L s x) ∧ X = lX (ngT M0 z L s x) := fun s hs fq => by
          obtain ⟨⟨a1, a2⟩, -⟩ := ho1 s hs
          obtain ⟨l1, l2⟩ := LS s hs
          have ej : j = ec M0 x := by
            rcases hfull with q | q
            · exact q
            · have m := lsS_le z g Q hj
              rw [← hQ'', a2, l1, l2] at m
              omega
          refine ⟨ej, ?_, ?_⟩
          · rw [hQ'', ej, a2, l1, l2]
          · rw [hX, ej, a2, l1]
        have FU : ∀ s : RS, o2 = some s → ¬ (lsC (ngE M0 z L s x) (ngT M0 z L s x)).length ≤ 65536 → 65536 < Q'.length := fun s hs fq => by
          obtain ⟨⟨a1, a2⟩, -⟩ := ho1 s hs
          obtain ⟨l1, l2⟩ := LS s hs
          rcases hfull with q | q
          · rw [hQ'', q, a2, l1, l2]
            omega
          · exact q
        have F := rj_put (M0 := M0) (M := M2) (M2 := M3) (o := oL) (Q := Q') (Y := Y) (y := x) (L := L) hI2 (fun y hy => by rw [e234, e226 226 (by omega) (by omega)]; exact hr1 y hy) ?_ ?_ hQ3 w3 f3.2.2 g3
        · have E : oL.bind (fun s => rput s x Y) = rsF M0 z ids L x o2 := by
            rw [hoL]
            cases ho2 : o2 with
            | none => rfl
            | some s =>
              obtain ⟨⟨a1, a2⟩, ⟨a3, a4⟩, a5, a6⟩ := ho1 s ho2
              show (if (lsC (ngE M0 z L s x) (ngT M0 z L s x)).length ≤ 65536 then some (rI s, lsC (ngE M0 z L s x) (ngT M0 z L s x), rP s) else none : Option RS).bind (fun s => rput s x Y) = if (lsC (ngE M0 z L s x) (ngT M0 z L s x)).length ≤ 65536 ∧ (rI s).length + (fnB M0 z ids L s x).length ≤ 65536 then some (rI s ++ fnB M0 z ids L s x, lsC (ngE M0 z L s x) (ngT M0 z L s x), upP (rP s) x (rI s).length) else none
              by_cases fq : (lsC (ngE M0 z L s x) (ngT M0 z L s x)).length ≤ 65536
              · obtain ⟨v1, v2, v3⟩ := WH s ho2 fq
                have q1 : M1 230 1 = (rQ s).length := by rw [← a2]; omega
                have q2 : M2 230 1 = (lsC (ngE M0 z L s x) (ngT M0 z L s x)).length := by rw [← v2]; rw [← v2] at fq; omega
                have g232 : M2 232 (M1 230 1 / 8192) = stI z (rQ s) (rQ s).length := by
                  rw [st.1, q1, List.take_of_length_le (by rw [v2]; exact fq), hZ, a2]
                  exact stI_ap (by omega) (by omega)
                have eY : Y = fnB M0 z ids L s x := by
                  rw [hY, g232, q1, q2, v3, ixL_cg (g := ngE M0 z L s x) (g2 := g) (fun t => by rw [hg]; rfl), show 2 + foN M0 (fe M0 x) (ec M0 x) = foN M0 (fe M0 x) (ec M0 x) + 2 by omega]
                  rfl
                rw [if_pos fq, eY]
                show rput (rI s, lsC (ngE M0 z L s x) (ngT M0 z L s x), rP s) x (fnB M0 z ids L s x) = _
                unfold rput
                show (if (rI s).length + (fnB M0 z ids L s x).length ≤ 65536 then some (rI s ++ fnB M0 z ids L s x, lsC (ngE M0 z L s x) (ngT M0 z L s x), upP (rP s) x (rI s).length) else none : Option RS) = _
                by_cases fi : (rI s).length + (fnB M0 z ids L s x).length ≤ 65536
                · rw [if_pos fi, if_pos ⟨fq, fi⟩]
                · rw [if_neg fi, if_neg (fun q => fi q.2)]
              · rw [if_neg fq, if_neg (fun q => fq q.1)]
                rfl
          rw [E] at F
          exact F
        · intro q
          rw [hoL] at q
          cases ho2 : o2 with
          | none =>
            rcases hn1 ho2 with q2 | q2
            · exact Or.inl q2
            · exact Or.inr (by omega)
          | some s =>
            rw [ho2] at q
            have q2 : (if (lsC (ngE M0 z L s x) (ngT M0 z L s x)).length ≤ 65536 then some (rI s, lsC (ngE M0 z L s x) (ngT M0 z L s x), rP s) else none : Option RS) = none := q
            by_cases fq : (lsC (ngE M0 z L s x) (ngT M0 z L s x)).length ≤ 65536
            · rw [if_pos fq] at q2
              cases q2
            · exact Or.inr (FU s ho2 fq)
        · intro s' q
          rw [hoL] at q
          cases ho2 : o2 with
          | none =>
            rw [ho2] at q
            cases q
          | some s =>
            rw [ho2] at q
            obtain ⟨⟨a1, a2⟩, ⟨a3, a4⟩, a5, a6⟩ := ho1 s ho2
            have q2 : (if (lsC (ngE M0 z L s x) (ngT M0 z L s x)).length ≤ 65536 then some (rI s, lsC (ngE M0 z L s x) (ngT M0 z L s x), rP s) else none : Option RS) = some s' := q
            by_cases fq : (lsC (ngE M0 z L s x) (ngT M0 z L s x)).length ≤ 65536
            · obtain ⟨v1, v2, v3⟩ := WH s ho2 fq
              rw [if_pos fq] at q2
              rw [← Option.some.inj q2]
              exact ⟨⟨a1, v2⟩, ⟨a3, by rw [v2]; exact fq⟩, fun y hy => by rw [e234]; exact a5 y hy, a6⟩
            · rw [if_neg fq] at q2
              cases q2
      refine ⟨by omega, fun w => ?_, fun w => ?_⟩
      · exact B153 1 (Or.inl ⟨rfl, Or.inl (by omega)⟩)
      · refine ⟨by omega, fun w2 => ?_, fun w2 => ?_⟩
        · exact B153 0 (Or.inr ⟨rfl, by omega⟩)
        · exact B153 1 (Or.inl ⟨rfl, Or.inr (by omega)⟩)
    -- the others
    have W2 : ∀ (o1 : Option RS), rsF M0 z ids L x (rsOt M0 ids L D (fe M0 x) (ec M0 x) o1) = rsD M0 z ids L D (f + 1) x o → ∀ (N j : Nat) (M1 : FM), ec M0 x - j < N → j ≤ ec M0 x → drF M M1 → rxC M0 M1 op L ids D → rjS M0 M1 z L (rsOt M0 ids L D (fe M0 x) j o1) → (∀ t : Nat, t < ec M0 x → M0 171 (M0 184 (fe M0 x + t)) = 1 → 0 ≤ M1 234 (M0 184 (fe M0 x + t))) → (∀ t : Nat, t < j → 0 ≤ M1 234 (M0 184 (fe M0 x + t))) → fm_X (e + 22) kd303 66 [some (fx 168), some (ti x), some (ti (fe M0 x)), some (ti (fe M0 x + ec M0 x)), some (ti (2 + foN M0 (fe M0 x) (ec M0 x))), some (ti (fe M0 x + j)), none, none, none, none] [] (sh, M1, nx, zl) K := by
      intro o1 hD1 N
      induction N with
      | zero =>
        intro j M1 hN
        omega
      | succ N ih =>
        intro j M1 hN hj f1 r1 J1 pd p1
        refine s303_66 (e + 22) K _ _ _ ?_
        refine ⟨by omega, fun w => ?_, fun w => ?_⟩
        · have ej : j = ec M0 x := by omega
          rw [ej] at J1 p1 ⊢
          exact END M1 _ f1 r1 J1 p1 hD1
        · have jn : j < ec M0 x := by omega
          have l := lead j jn
          have v184 : M1 184 (fe M0 x + j) = M0 184 (fe M0 x + j) := by rw [r1.1.1 184 (by omega) (by omega)]
          obtain ⟨y, hy⟩ : ∃ y : Int, y = M0 184 (fe M0 x + j) := ⟨_, rfl⟩
          rw [← hy] at l v184
          obtain ⟨I, Q, ⟨hI, hQ⟩, hr1, hn1, ho1⟩ := id J1
          have ry := hr1 y l.2
          have sI := mr_size hI
          have v234 : M1 234 (M1 184 (fe M0 x + j)) = M1 234 y := by rw [v184]
          have eS : rsOt M0 ids L D (fe M0 x) (j + 1) o1 = (rsOt M0 ids L D (fe M0 x) j o1).bind (fun s => if rP s y < 0 then rput s y (nnB M0 ids L D y) else some s) := by
            rw [hy]
            rfl
          have NXT : ∀ M3 : FM, drF M1 M3 → rxC M0 M3 op L ids D → 0 ≤ M3 234 y → rjS M0 M3 z L (rsOt M0 ids L D (fe M0 x) (j + 1) o1) → b303_98 (e + 22) (fW (e + 22) kd303 K) K [some (fx 168), some (ti x), some (ti (fe M0 x)), some (ti (fe M0 x + ec M0 x)), some (ti (2 + foN M0 (fe M0 x) (ec M0 x))), some (ti (fe M0 x + j)), none, none, none, none] [] (sh, M3, nx, zl) := by
            intro M3 f3 r3 q3 J3
            have F := ih (j + 1) M3 (by omega) (by omega) (drF_t f1 f3) r3 J3 (fun t ht hk => f3.2.2 _ (pd t ht hk)) (fun t ht => ?_)
            · rw [show fe M0 x + ((j + 1 : Nat) : Int) = fe M0 x + j + 1 by omega] at F
              exact F
            · by_cases et : t = j
              · rw [et, ← hy]
                exact q3
              · exact f3.2.2 _ (p1 t (by omega))
          refine ⟨by omega, ?_⟩
          refine ⟨by omega, ?_⟩
          rw [v234]
          refine ⟨by omega, fun w2 => ?_, fun w2 => ?_⟩
          · refine NXT M1 (drF_r M1) r1 (by omega) ?_
            rw [eS]
            cases ho2 : rsOt M0 ids L D (fe M0 x) j o1 with
            | none =>
              rw [ho2] at J1
              exact J1
            | some s =>
              have a5 := (ho1 s ho2).2.2.1 y l.2
              show rjS M0 M1 z L (if rP s y < 0 then rput s y (nnB M0 ids L D y) else some s)
              rw [if_neg (by omega), ← ho2]
              exact J1
          · have kd : M0 171 y ≠ 1 := fun q => by
              have := pd j jn (by rw [← hy]; exact q)
              rw [← hy] at this
              omega
            refine ⟨by omega, ?_⟩
            rw [v184]
            have hI' := hI
            rw [hzz] at hI'
            refine mputInode_Y (d := e) hs0 r1 l.2 kd hI' (fun M2 f2 g2 id2 w2' => ?_)
            rw [← hzz] at w2'
            have q2 : 0 ≤ M2 234 y := by
              rw [g2]
              omega
            have f12 := drF_b f2 q2
            refine NXT M2 f12 (rxC_d r1 f12 id2) q2 ?_
            have hQ2 : mrO M2 230 231 232 233 z Q := mrO_F hQ (f2.1 230 (by omega) (by omega) (by omega) (by omega) (by omega)) (f2.1 231 (by omega) (by omega) (by omega) (by omega) (by omega)) (f2.1 232 (by omega) (by omega) (by omega) (by omega) (by omega)) (f2.1 233 (by omega) (by omega) (by omega) (by omega) (by omega))
            have F := rj_put (M0 := M0) (Y := nnB M0 ids L D y) (L := L) hI hr1 hn1 ho1 hQ2 w2' f2.2.2 g2
            rw [eS]
            cases ho2 : rsOt M0 ids L D (fe M0 x) j o1 with
            | none =>
              rw [ho2] at F
              exact F
            | some s =>
              rw [ho2] at F
              have a5 := (ho1 s ho2).2.2.1 y l.2
              show rjS M0 M2 z L (if rP s y < 0 then rput s y (nnB M0 ids L D y) else some s)
              rw [if_pos (by omega)]
              exact F
    -- the directories below
    have W1 : ∀ (N j : Nat) (M1 : FM), ec M0 x - j < N → j ≤ ec M0 x → drF M M1 → rxC M0 M1 op L ids D → rjS M0 M1 z L (rsK M0 (rsD M0 z ids L D f) (fe M0 x) j o) → (∀ t : Nat, t < j → M0 171 (M0 184 (fe M0 x + t)) = 1 → 0 ≤ M1 234 (M0 184 (fe M0 x + t))) → fm_X (e + 22) kd303 11 [some (fx 168), some (ti x), some (ti (fe M0 x)), some (ti (fe M0 x + j)), some (ti (2 + foN M0 (fe M0 x) j)), none, none, none, none, none] [] (sh, M1, nx, zl) K := by
      intro N
      induction N with
      | zero =>
        intro j M1 hN
        omega
      | succ N ih =>
        intro j M1 hN hj f1 r1 J1 p1
        have v20 : M1 168 20 = M0 168 20 := r1.1.2 20 (by omega)
        have fo := foN_r M0 (fe M0 x) j
        refine s303_11 (e + 22) K _ _ _ ?_
        by_cases ej : j = ec M0 x
        · have B63 : b303_63 (e + 22) (fW (e + 22) kd303 K) K [some (fx 168), some (ti x), some (ti (fe M0 x)), some (ti (fe M0 x + j)), some (ti (2 + foN M0 (fe M0 x) j)), none, none, none, none, none] [] (sh, M1, nx, zl) := by
            rw [ej] at J1 p1 ⊢
            have F := W2 _ rfl (ec M0 x + 1) 0 M1 (by omega) (by omega) f1 r1 J1 p1 (fun t ht => by omega)
            rw [show fe M0 x + ((0 : Nat) : Int) = fe M0 x by omega] at F
            exact F
          refine ⟨by omega, fun w => B63, fun w => ?_⟩
          have v183 : M1 183 (fe M0 x + j) = M0 183 (fe M0 x + j) := by rw [r1.1.1 183 (by omega) (by omega)]
          have tE := (hW.2.2.2.1.2 (fe M0 x + j) (by omega) (by omega)).1
          refine ⟨by omega, ?_⟩
          refine ⟨by omega, fun w2 => B63, fun w2 => ?_⟩
          have := fe_out hW (F := x) (k := fe M0 x + j) (by omega) (by omega) (by omega)
          omega
        · have jn : j < ec M0 x := by omega
          have l := lead j jn
          have v183 : M1 183 (fe M0 x + j) = x := by
            rw [r1.1.1 183 (by omega) (by omega)]
            exact fe_in hW (by omega) (by omega)
          have v184 : M1 184 (fe M0 x + j) = M0 184 (fe M0 x + j) := by rw [r1.1.1 184 (by omega) (by omega)]
          obtain ⟨y, hy⟩ : ∃ y : Int, y = M0 184 (fe M0 x + j) := ⟨_, rfl⟩
          have v171 : M1 171 (M1 184 (fe M0 x + j)) = M0 171 y := by rw [v184, r1.1.1 171 (by omega) (by omega), hy]
          have kr := (hW.1.2 y (by rw [hy]; omega) (by have := (hP.2 _ l.2).1; rw [hy]; omega)).1
          have es : foN M0 (fe M0 x) (j + 1) = foN M0 (fe M0 x) j + (if M0 171 (M0 184 (fe M0 x + j)) = 1 then 1 else 0) := rfl
          refine ⟨by omega, fun w => by omega, fun w => ?_⟩
          refine ⟨by omega, ?_⟩
          refine ⟨by omega, fun w2 => by omega, fun w2 => ?_⟩
          refine ⟨by omega, ?_⟩
          refine ⟨by omega, ?_⟩
          refine ⟨by omega, fun w3 => ?_, fun w3 => ?_⟩
          · have kd : M0 171 (M0 184 (fe M0 x + j)) ≠ 1 := by rw [← hy]; omega
            have F := ih (j + 1) M1 (by omega) (by omega) f1 r1 ?_ (fun t ht hk => ?_)
            · rw [es, if_neg kd, Int.add_zero, show fe M0 x + ((j + 1 : Nat) : Int) = fe M0 x + j + 1 by omega] at F
              exact F
            · show rjS M0 M1 z L (if M0 171 (M0 184 (fe M0 x + j)) = 1 then _ else rsK M0 (rsD M0 z ids L D f) (fe M0 x) j o)
              rw [if_neg kd]
              exact J1
            · by_cases et : t = j
              · rw [et] at hk
                exact absurd hk kd
              · exact p1 t (by omega) hk
          · have kd : M0 171 (M0 184 (fe M0 x + j)) = 1 := by rw [← hy]; omega
            obtain ⟨e178, ypos, dep, dep2⟩ := dir_kid hT ha jn kd
            obtain ⟨u1, v1, hSc, hc3, hc11, hEc⟩ := ce_of (x := x) hT jn
            refine ⟨by omega, ?_⟩
            rw [v184]
            refine IH (M0 184 (fe M0 x + j)) (δ + 1) (ceC M0 x j) M1 _ _ l.2 kd hc11 (by omega) (by omega) (Or.inr (by rw [e178]; exact hx)) r1 J1 (fun M2 f2 r2 J2 p2 => ?_)
            have F := ih (j + 1) M2 (by omega) (by omega) (drF_t f1 f2) r2 ?_ (fun t ht hk => ?_)
            · rw [es, if_pos kd, show fe M0 x + ((j + 1 : Nat) : Int) = fe M0 x + j + 1 by omega, show 2 + (foN M0 (fe M0 x) j + 1) = 2 + foN M0 (fe M0 x) j + 1 by omega] at F
              exact F
            · show rjS M0 M2 z L (if M0 171 (M0 184 (fe M0 x + j)) = 1 then rsD M0 z ids L D f (M0 184 (fe M0 x + j)) (rsK M0 (rsD M0 z ids L D f) (fe M0 x) j o) else _)
              rw [if_pos kd]
              exact J2
            · by_cases et : t = j
              · rw [et]
                exact p2
              · exact f2.2.2 _ (p1 t (by omega) hk)
    refine m303 [fx 168, ti x] ?_
    have fx1 : fe M x = fe M0 x := by
      unfold fe
      rw [hr.1.2 20 (by omega), hr.1.1 183 (by omega) (by omega)]
    have tW : twR M := twR_k hW hr.1.1 (fun i _ hi => hr.1.2 i hi)
    refine firstEntry_Y (d := e + 21) tW (by omega) ?_
    rw [fx1]
    have F := W1 (ec M0 x + 1) 0 M (by omega) (by omega) (drF_r M) hr hJ (fun t ht => by omega)
    rw [show fe M0 x + ((0 : Nat) : Int) = fe M0 x by omega] at F
    exact F
end MDIR2
