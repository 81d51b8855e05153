/-! FREEZING: a directory, the reference -/
/-- what doing a directory leaves -/
def drF (M M2 : FM) : Prop := (∀ c : Nat, c ≠ 168 → (c < 188 ∨ 203 < c) → c ≠ 215 → (c < 226 ∨ 237 < c) → M2 c = M c) ∧ (∀ i : Int, i ≠ 28 → i ≠ 31 → i ≠ 42 → i ≠ 66 → i ≠ 86 → M2 168 i = M 168 i) ∧ ∀ y : Int, 0 ≤ M 234 y → 0 ≤ M2 234 y
theorem drF_r (M : FM) : drF M M := ⟨fun _ _ _ _ _ => rfl, fun _ _ _ _ _ _ => rfl, fun _ h => h⟩
theorem drF_t {M M2 M3 : FM} (h : drF M M2) (g : drF M2 M3) : drF M M3 := ⟨fun c h1 h2 h3 h4 => (g.1 c h1 h2 h3 h4).trans (h.1 c h1 h2 h3 h4), fun i h1 h2 h3 h4 h5 => (g.2.1 i h1 h2 h3 h4 h5).trans (h.2.1 i h1 h2 h3 h4 h5), fun y hy => g.2.2 y (h.2.2 y hy)⟩
theorem mr_size {M : FM} {q b st cl : Nat} {z : Int} {R : List Int} (h : mrO M q b st cl z R) : M q 1 = min 65536 (R.length : Int) := by
  have := h.1.1.1
  rw [List.length_take] at this
  omega
theorem mrO_F {M M2 : FM} {q b st cl : Nat} {z : Int} {R : List Int} (h : mrO M q b st cl z R) (h1 : M2 q = M q) (h2 : M2 b = M b) (h3 : M2 st = M st) (h4 : M2 cl = M cl) : mrO M2 q b st cl z R := by
  unfold mrO mrC at *
  rw [h1, h2, h3, h4]
  exact h
theorem mr_st {M : FM} {q b st cl : Nat} {z : Int} {R : List Int} (h : mrO M q b st cl z R) {p : Int} (h0 : 0 ≤ p) (h1 : p ≤ M q 1) : M st (p / 8192) = stI z (R.take 65536) p ∧ 0 ≤ M st (p / 8192) ∧ M st (p / 8192) ≤ 65552 := by
  have s := mr_size h
  obtain ⟨⟨⟨a1, a2, a3⟩, a4, a5, a6⟩, a7⟩ := h
  have e : M st (p / 8192) = stI z (R.take 65536) p := by
    have := a6 (p / 8192).toNat (by omega)
    rw [show (((p / 8192).toNat : Nat) : Int) = p / 8192 by omega] at this
    exact this
  refine ⟨e, ?_⟩
  rw [e]
  exact stI_r (R.take 65536) h0 (by omega)
section MDIR
variable {d nx zl : Nat} {K : Option TV → FH → Prop} {sh : Nat → Option Shp} {M0 M : FM} {op z : Int} {B : Nat} {L ids : List Int} {D : DS}
theorem rxC_d {M2 : FM} (h : rxC M0 M op L ids D) (g : drF M M2) (hi : rdI M2 ids) : rxC M0 M2 op L ids D := by
  obtain ⟨hts, h69, ⟨r63, r214⟩, hid, r222, rN⟩ := h
  have e : ∀ c : Nat, (c < 188 ∨ 203 < c) → c ≠ 168 → c ≠ 215 → (c < 226 ∨ 237 < c) → M2 c = M c := fun c h1 h2 h3 h4 => g.1 c h2 h1 h3 h4
  refine ⟨⟨fun c c1 c2 => by rw [e c (by omega) (by omega) (by omega) (by omega)]; exact hts.1 c c1 c2, fun i hi => by rw [g.2.1 i (by omega) (by omega) (by omega) (by omega) (by omega)]; exact hts.2 i hi⟩, by rw [g.2.1 69 (by decide) (by decide) (by decide) (by decide) (by decide)]; exact h69, ⟨by rw [g.2.1 63 (by decide) (by decide) (by decide) (by decide) (by decide)]; exact r63, fun x hx => by rw [e 214 (by omega) (by omega) (by omega) (by omega)]; exact r214 x hx⟩, hi, fun i b hb => by rw [e 222 (by omega) (by omega) (by omega) (by omega)]; exact r222 i b hb, fun y hy y2 => ?_⟩
  unfold naM
  rw [e 216 (by omega) (by omega) (by omega) (by omega), e 217 (by omega) (by omega) (by omega) (by omega), e 218 (by omega) (by omega) (by omega) (by omega), e 219 (by omega) (by omega) (by omega) (by omega), e 220 (by omega) (by omega) (by omega) (by omega), e 221 (by omega) (by omega) (by omega) (by omega)]
  exact rN y hy y2
/-- where the reference is -/
def rjS (M0 M : FM) (z : Int) (L : List Int) (o : Option RS) : Prop := ∃ I Q : List Int, (mrO M 226 227 228 229 z I ∧ mrO M 230 231 232 233 z Q) ∧ (∀ x ∈ L, -1 ≤ M 234 x ∧ M 234 x ≤ M 226 1) ∧ (o = none → 65536 < I.length ∨ 65536 < Q.length) ∧ ∀ s : RS, o = some s → (I = rI s ∧ Q = rQ s) ∧ (I.length ≤ 65536 ∧ Q.length ≤ 65536) ∧ (∀ x ∈ L, M 234 x = rP s x) ∧ ∀ x : Int, -1 ≤ rP s x ∧ rP s x ≤ (rI s).length
/-- an inode more -/
theorem rj_put {M2 : FM} {y : Int} {I Q Y : List Int} {o : Option RS} (hI : mrO M 226 227 228 229 z I) (hr : ∀ x ∈ L, -1 ≤ M 234 x ∧ M 234 x ≤ M 226 1) (hn : o = none → 65536 < I.length ∨ 65536 < Q.length) (ho : ∀ s : RS, o = some s → (I = rI s ∧ Q = rQ s) ∧ (I.length ≤ 65536 ∧ Q.length ≤ 65536) ∧ (∀ x ∈ L, M 234 x = rP s x) ∧ ∀ x : Int, -1 ≤ rP s x ∧ rP s x ≤ (rI s).length) (hQ2 : mrO M2 230 231 232 233 z Q) (hI2 : mrO M2 226 227 228 229 z (I ++ Y)) (f : ∀ x : Int, x ≠ y → M2 234 x = M 234 x) (g : M2 234 y = M 226 1) : rjS M0 M2 z L (o.bind (fun s => rput s y Y)) := by
  have s1 := mr_size hI
  have s2 := mr_size hI2
  have lA : (I ++ Y).length = I.length + Y.length := List.length_append
  refine ⟨I ++ Y, Q, ⟨hI2, hQ2⟩, fun x hx => ?_, ?_, ?_⟩
  · by_cases e : x = y
    · rw [e, g]
      omega
    · rw [f x e]
      have := hr x hx
      omega
  · cases o with
    | none =>
      intro _
      rcases hn rfl with q | q
      · exact Or.inl (by omega)
      · exact Or.inr q
    | some s =>
      intro q
      obtain ⟨⟨a1, a2⟩, ⟨a3, a4⟩, a5, a6⟩ := ho s rfl
      have q2 : rput s y Y = none := q
      unfold rput at q2
      by_cases fit : (rI s).length + Y.length ≤ 65536
      · rw [if_pos fit] at q2
        cases q2
      · rw [← a1] at fit
        exact Or.inl (by omega)
  · intro s' q
    cases o with
    | none => cases q
    | some s =>
      obtain ⟨⟨a1, a2⟩, ⟨a3, a4⟩, a5, a6⟩ := ho s rfl
      have q2 : rput s y Y = some s' := q
      unfold rput at q2
      by_cases fit : (rI s).length + Y.length ≤ 65536
      · rw [if_pos fit] at q2
        rw [← Option.some.inj q2]
        rw [a1] at lA s1 a3
        refine ⟨⟨by rw [a1]; rfl, a2⟩, ⟨by rw [a1]; omega, a4⟩, fun x hx => ?_, fun x => ?_⟩
        · show M2 234 x = upP (rP s) y (rI s).length x
          by_cases e : x = y
          · rw [e, upP_at, g]
            omega
          · rw [upP_ne e, f x e]
            exact a5 x hx
        · show -1 ≤ upP (rP s) y (rI s).length x ∧ upP (rP s) y (rI s).length x ≤ ((rI s ++ Y).length : Nat)
          have := a6 x
          rw [List.length_append]
          by_cases e : x = y
          · rw [e, upP_at]
            omega
          · rw [upP_ne e]
            omega
      · rw [if_neg fit] at q2
        cases q2
/-- a directory's inode, from where its type is known -/
theorem mdirI_Y {x pl n lk : Int} {R : List Int} {X : List (Int × Int × Nat)} {g : Nat → ENt} {y9 : Option TV} {e3 : Int} (hs : sxC M0 op B L ids D) (hr : rxC M0 M op L ids D) (hx : x ∈ L) (hpa : x = 0 ∨ M0 178 x ∈ L) (hpl : 0 ≤ pl ∧ pl ≤ 65536) (hst : 0 ≤ M 232 (pl / 8192) ∧ M 232 (pl / 8192) ≤ 131072) (hn : -100000 ≤ n ∧ n ≤ 100000) (hlk : 0 ≤ lk ∧ lk ≤ 3000) (hX8 : X.length ≤ 8) (hXb : ∀ p ∈ X, (0 ≤ p.1 ∧ p.1 ≤ 65536) ∧ (0 ≤ p.2.1 ∧ p.2.1 ≤ 65552) ∧ p.2.2 < ec M0 x) (hA : mlA M (fe M0 x) X) (hg : ∀ j : Nat, lnm (g j) = nmL M0 (fe M0 x + j)) (h3 : e3 = 1 ∧ (0 < (X.length : Int) ∨ 65535 < n) ∨ e3 = 0 ∧ ¬ (0 < (X.length : Int) ∨ 65535 < n)) (h : mrO M 226 227 228 229 (1 - op % 2) R)
    (k : ∀ M2 : FM, biF M M2 x → M2 234 x = M 226 1 → rdI M2 ids → mrO M2 226 227 228 229 (1 - op % 2) (R ++ fdB (cmR M0 ids L x) X.length n (M 232 (pl / 8192)) (pl % 8192) (paN M0 L x) lk (ixL g X)) → K none (sh, M2, nx, zl)) : b303_153 (d + 22) (fW (d + 22) kd303 K) K [some (fx 168), some (ti x), some (ti (fe M0 x)), some (ti (fe M0 x + ec M0 x)), some (ti lk), some (ti pl), some (ti n), none, none, y9] [ti e3] (sh, M, nx, zl) := by
  obtain ⟨hW, hop, hB, hP, -, ⟨i1, i2, i3⟩, -, -⟩ := hs
  obtain ⟨hts, h69, ⟨r63, r214⟩, hid, -, -⟩ := hr
  have nN := hW.1.1
  have xr := (hP.2 x hx).1
  obtain ⟨k1, kp, t172, t173, t174, t175, t176⟩ := hW.1.2 x xr.1 xr.2
  have LL := nuP_len hW hP
  have nr := nuO_r hx
  have i3x := i3 x hx
  have v214 := r214 x hx
  have n20 := hW.2.2.2.1.1
  have er := fe_r hW x
  have e : ∀ c : Nat, 171 ≤ c → c ≤ 187 → M c = M0 c := hts.1
  -- behind the type
  have B168 : ∀ ty : Int, (ty = 8 ∧ e3 = 1 ∨ ty = 1 ∧ e3 = 0) → b303_168 (d + 22) (fW (d + 22) kd303 K) K [some (fx 168), some (ti x), some (ti (fe M0 x)), some (ti (fe M0 x + ec M0 x)), some (ti lk), some (ti pl), some (ti n), some (ti e3), none, y9] [ti ty, ti x, fx 168] (sh, M, nx, zl) := by
    intro ty hty
    refine beginInode_Y (d := d + 1) (ids := ids) (R := R) hop h69 (by omega) (by omega) (by rw [e 172 (by omega) (by omega)]; exact t172) (by rw [e 173 (by omega) (by omega)]; exact t173) (by rw [e 174 (by omega) (by omega)]; exact t174) (by rw [e 175 (by omega) (by omega)]; exact t175) (by omega) hid i1 i2 (by rw [e 173 (by omega) (by omega)]; exact i3x.1) (by rw [e 174 (by omega) (by omega)]; exact i3x.2) h (fun M2 f2 g2 id2 w2 => ?_)
    have eC : cmL ty (M 172 x) (ids.idxOf (M 173 x)) (ids.idxOf (M 174 x)) (M 175 x) (M 214 x) = cmR M0 ids L x ty := by
      unfold cmR
      rw [e 172 (by omega) (by omega), e 173 (by omega) (by omega), e 174 (by omega) (by omega), e 175 (by omega) (by omega), v214]
    rw [eC] at w2
    have O69 : ∀ M3 : FM, biF M M3 x → M3 168 69 = op := fun M3 f3 => by rw [f3.2.1 69 (by decide) (by decide) (by decide) (by decide)]; exact h69
    have G234 : ∀ M3 : FM, maF M2 M3 226 → M3 234 x = M 226 1 := fun M3 f3 => by rw [f3.1 234 (by omega) (by omega) (by omega) (by omega) (by omega) (by omega)]; exact g2
    have T2 : ∀ (M3 : FM) (c : Nat), biF M M3 x → 171 ≤ c → c ≤ 187 → M3 c = M0 c := fun M3 c f3 c1 c2 => by rw [f3.1 c (by omega) (by omega) (by omega) (by omega) (by omega), e c c1 c2]
    have ppr : 0 ≤ paN M0 L x ∧ paN M0 L x ≤ 3000 := by
      unfold paN
      by_cases x0 : x = 0
      · rw [if_pos x0]
        omega
      · rw [if_neg x0]
        rcases hpa with q | q
        · exact absurd q x0
        · have := nuO_r q
          omega
    -- behind the parent
    have B195 : b303_195 (d + 22) (fW (d + 22) kd303 K) K [some (fx 168), some (ti x), some (ti (fe M0 x)), some (ti (fe M0 x + ec M0 x)), some (ti lk), some (ti pl), some (ti n), some (ti e3), none, y9] [ti (paN M0 L x)] (sh, M2, nx, zl) := by
      rcases hty with ⟨q1, q2⟩ | ⟨q1, q2⟩
      · rw [q1] at w2
        have more : 0 < (X.length : Int) ∨ 65535 < n := by
          rcases h3 with ⟨a1, a2⟩ | ⟨a1, a2⟩
          · exact a2
          · omega
        refine ⟨by omega, fun w => ?_, fun w => by omega⟩
        refine ⟨by omega, ?_⟩
        refine addTo_Y (d := d + 2) (n := 4) (mr226 sh) hop (O69 M2 f2) (by omega) (by omega) w2 (fun M3 f3 w3 => ?_)
        have f03 := biF_a f2 f3
        refine ⟨by omega, ?_⟩
        refine addTo_Y (d := d + 2) (n := 4) (mr226 sh) hop (O69 M3 f03) (by omega) (by omega) w3 (fun M4 f4 w4 => ?_)
        have f04 := biF_a f03 f4
        have u232 : M4 232 = M 232 := f04.1 232 (by omega) (by omega) (by omega) (by omega) (by omega)
        refine startOf_Y (d := d + 21) (mr230 sh) (by omega) ?_
        rw [u232]
        refine ⟨by omega, ?_⟩
        refine addTo_Y (d := d + 2) (n := 4) (mr226 sh) hop (O69 M4 f04) (by omega) (by omega) w4 (fun M5 f5 w5 => ?_)
        have f05 := biF_a f04 f5
        refine ⟨by omega, ?_⟩
        refine addTo_Y (d := d + 2) (n := 4) (mr226 sh) hop (O69 M5 f05) (by omega) (by omega) w5 (fun M6 f6 w6 => ?_)
        have f06 := biF_a f05 f6
        have u86 : M6 168 86 = X.length := by
          rw [f06.2.1 86 (by decide) (by decide) (by decide) (by decide)]
          exact hA.1
        refine ⟨by omega, ?_⟩
        refine addTo_Y (d := d + 2) (n := 2) (mr226 sh) hop (O69 M6 f06) (by omega) (by omega) w6 (fun M7 f7 w7 => ?_)
        have f07 := biF_a f06 f7
        refine ⟨by omega, ?_⟩
        refine ⟨by omega, ?_⟩
        refine addTo_Y (d := d + 2) (n := 2) (mr226 sh) hop (O69 M7 f07) (by omega) (by omega) w7 (fun M8 f8 w8 => ?_)
        have f08 := biF_a f07 f8
        refine addTo_Y (d := d + 2) (n := 4) (mr226 sh) hop (O69 M8 f08) (by omega) (by omega) w8 (fun M9 f9 w9 => ?_)
        have a9 : maF M2 M9 226 := maF_t f3 (maF_t f4 (maF_t f5 (maF_t f6 (maF_t f7 (maF_t f8 f9)))))
        rw [u86] at w9
        -- the indexes
        have LP : ∀ (N i : Nat) (Ma : FM), X.length - i < N → i ≤ X.length → maF M2 Ma 226 → mrO Ma 226 227 228 229 (1 - op % 2) (R ++ cmR M0 ids L x 8 ++ leL lk 4 ++ leL n 4 ++ leL (M 232 (pl / 8192)) 4 ++ leL (paN M0 L x) 4 ++ leL X.length 2 ++ leL (pl % 8192) 2 ++ leL (-1) 4 ++ ixL g (X.take i)) → fm_X (d + 22) kd303 374 [some (fx 168), some (ti x), some (ti (fe M0 x)), some (ti (fe M0 x + ec M0 x)), some (ti lk), some (ti pl), some (ti n), some (ti e3), some (ti (paN M0 L x)), some (ti i)] [] (sh, Ma, nx, zl) K := by
          intro N
          induction N with
          | zero =>
            intro i Ma hN
            omega
          | succ N ih =>
            intro i Ma hN hi fa wa
            have f0a := biF_a f2 fa
            have x86 : Ma 168 86 = X.length := by
              rw [f0a.2.1 86 (by decide) (by decide) (by decide) (by decide)]
              exact hA.1
            refine s303_374 (d + 22) K _ _ _ ?_
            refine ⟨by omega, fun w => ?_, fun w => ?_⟩
            · have ei : i = X.length := by omega
              rw [ei, List.take_length] at wa
              refine k Ma f0a (G234 Ma fa) (rdI_a id2 fa) ?_
              unfold fdB
              rw [if_pos more]
              simp only [List.append_assoc] at wa ⊢
              exact wa
            · obtain ⟨p, hp⟩ : ∃ p, X[i]? = some p := ⟨_, List.getElem?_eq_getElem (by omega)⟩
              obtain ⟨a1, a2, a3⟩ := hA.2 i p hp
              obtain ⟨b1, b2, b3⟩ := hXb p (List.mem_of_getElem? hp)
              have u235 : Ma 235 i = p.1 := by rw [f0a.1 235 (by omega) (by omega) (by omega) (by omega) (by omega)]; exact a1
              refine ⟨by omega, ?_⟩
              refine ⟨by omega, ?_⟩
              refine addTo_Y (d := d + 2) (n := 4) (mr226 sh) hop (O69 Ma f0a) (by omega) (by omega) wa (fun Mb fb wb => ?_)
              have f0b := biF_a f0a fb
              have u236 : Mb 236 i = p.2.1 := by rw [f0b.1 236 (by omega) (by omega) (by omega) (by omega) (by omega)]; exact a2
              refine ⟨by omega, ?_⟩
              refine ⟨by omega, ?_⟩
              refine addTo_Y (d := d + 2) (n := 4) (mr226 sh) hop (O69 Mb f0b) (by omega) (by omega) wb (fun Mc fc wc => ?_)
              have f0c := biF_a f0b fc
              have u237 : Mc 237 i = fe M0 x + p.2.2 := by rw [f0c.1 237 (by omega) (by omega) (by omega) (by omega) (by omega)]; exact a3
              have tE := (hW.2.2.2.1.2 (fe M0 x + p.2.2) (by omega) (by omega)).2.2.1
              have u186 : Mc 186 (Mc 237 i) = M0 186 (fe M0 x + p.2.2) := by rw [u237, T2 Mc 186 f0c (by omega) (by omega)]
              have ln : ((lnm (g p.2.2)).length : Int) = M0 186 (fe M0 x + p.2.2) := by
                rw [hg]
                unfold nmL
                rw [sl_len]
                omega
              refine ⟨by omega, ?_⟩
              refine ⟨by omega, ?_⟩
              refine ⟨by omega, ?_⟩
              refine addTo_Y (d := d + 2) (n := 4) (mr226 sh) hop (O69 Mc f0c) (by omega) (by omega) wc (fun Md fd wd => ?_)
              have f0d := biF_a f0c fd
              have v237 : Md 237 i = fe M0 x + p.2.2 := by rw [f0d.1 237 (by omega) (by omega) (by omega) (by omega) (by omega)]; exact a3
              have v185 : Md 185 (fe M0 x + p.2.2) = M0 185 (fe M0 x + p.2.2) := by rw [T2 Md 185 f0d (by omega) (by omega)]
              have v186 : Md 186 (fe M0 x + p.2.2) = M0 186 (fe M0 x + p.2.2) := by rw [T2 Md 186 f0d (by omega) (by omega)]
              refine ⟨by omega, ?_⟩
              rw [v237]
              refine addName_Y (d := d + 1) (mr226 sh) hop (O69 Md f0d) (by omega) (by omega) wd (fun Me fe' we => ?_)
              refine ih (i + 1) Me (by omega) (by omega) (maF_t fa (maF_t fb (maF_t fc (maF_t fd fe')))) ?_
              have eN : nmL Md (fe M0 x + p.2.2) = lnm (g p.2.2) := by
                rw [hg]
                unfold nmL
                rw [T2 Md 185 f0d (by omega) (by omega), T2 Md 186 f0d (by omega) (by omega), T2 Md 187 f0d (by omega) (by omega)]
              have et : X.take (i + 1) = X.take i ++ [p] := by
                rw [List.take_add_one, hp]
                rfl
              rw [et, ixL_app]
              unfold ixB
              rw [ln]
              rw [eN, u235, u236, u186] at we
              simp only [List.append_assoc] at we ⊢
              exact we
        have F := LP (X.length + 1) 0 M9 (by omega) (by omega) a9 ?_
        · exact F
        · show mrO M9 226 227 228 229 (1 - op % 2) (_ ++ [])
          rw [List.append_nil]
          exact w9
      · rw [q1] at w2
        have more : ¬ (0 < (X.length : Int) ∨ 65535 < n) := by
          rcases h3 with ⟨a1, a2⟩ | ⟨a1, a2⟩
          · omega
          · exact a2
        refine ⟨by omega, fun w => by omega, fun w => ?_⟩
        have u232 : M2 232 = M 232 := f2.1 232 (by omega) (by omega) (by omega) (by omega) (by omega)
        refine startOf_Y (d := d + 21) (mr230 sh) (by omega) ?_
        rw [u232]
        refine ⟨by omega, ?_⟩
        refine addTo_Y (d := d + 2) (n := 4) (mr226 sh) hop (O69 M2 f2) (by omega) (by omega) w2 (fun M3 f3 w3 => ?_)
        have f03 := biF_a f2 f3
        refine ⟨by omega, ?_⟩
        refine addTo_Y (d := d + 2) (n := 4) (mr226 sh) hop (O69 M3 f03) (by omega) (by omega) w3 (fun M4 f4 w4 => ?_)
        have f04 := biF_a f03 f4
        refine ⟨by omega, ?_⟩
        refine addTo_Y (d := d + 2) (n := 2) (mr226 sh) hop (O69 M4 f04) (by omega) (by omega) w4 (fun M5 f5 w5 => ?_)
        have f05 := biF_a f04 f5
        refine ⟨by omega, ?_⟩
        refine ⟨by omega, ?_⟩
        refine addTo_Y (d := d + 2) (n := 2) (mr226 sh) hop (O69 M5 f05) (by omega) (by omega) w5 (fun M6 f6 w6 => ?_)
        have f06 := biF_a f05 f6
        refine ⟨by omega, ?_⟩
        refine addTo_Y (d := d + 2) (n := 4) (mr226 sh) hop (O69 M6 f06) (by omega) (by omega) w6 (fun M7 f7 w7 => ?_)
        have a7 : maF M2 M7 226 := maF_t f3 (maF_t f4 (maF_t f5 (maF_t f6 f7)))
        refine k M7 (biF_a f06 f7) (G234 M7 a7) (rdI_a id2 a7) ?_
        unfold fdB
        rw [if_neg more]
        simp only [List.append_assoc] at w7 ⊢
        exact w7
    by_cases x0 : x = 0
    · refine ⟨by omega, fun w => by omega, fun w => ?_⟩
      have u63 : M2 168 63 = L.length := by
        rw [f2.2.1 63 (by decide) (by decide) (by decide) (by decide)]
        exact r63
      have ep : paN M0 L x = M2 168 63 + 1 := by
        unfold paN
        rw [if_pos x0, u63]
      rw [ep] at B195
      exact B195
    · refine ⟨by omega, fun w => ?_, fun w => by omega⟩
      have pL : M0 178 x ∈ L := by
        rcases hpa with q | q
        · exact absurd q x0
        · exact q
      have kp2 := kp (by omega)
      have u178 : M2 178 x = M0 178 x := by rw [T2 M2 178 f2 (by omega) (by omega)]
      refine ⟨by omega, ?_⟩
      refine ⟨by omega, ?_⟩
      have ep : paN M0 L x = M2 214 (M2 178 x) := by
        unfold paN
        rw [if_neg x0, u178, f2.1 214 (by omega) (by omega) (by omega) (by omega) (by omega), r214 _ pL]
      rw [ep] at B195
      exact B195
  rcases h3 with ⟨a1, a2⟩ | ⟨a1, a2⟩
  · exact ⟨by omega, fun w => by omega, fun w => B168 8 (Or.inl ⟨rfl, a1⟩)⟩
  · exact ⟨by omega, fun w => B168 1 (Or.inr ⟨rfl, a1⟩), fun w => by omega⟩
end MDIR
