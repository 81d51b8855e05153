/-! COUNTING STRAYS: the class -/
theorem or01 {x y : Int} (hx : x = 0 ∨ x = 1) (hy : y = 0 ∨ y = 1) : ∃ z : Int, Int32.ofInt x ||| Int32.ofInt y = Int32.ofInt z ∧ ((z = 0 ∧ x = 0 ∧ y = 0) ∨ (z = 1 ∧ ¬ (x = 0 ∧ y = 0))) := by
  rcases hx with a | a <;> rcases hy with b | b <;> rw [a, b]
  · exact ⟨0, by decide, Or.inl ⟨rfl, rfl, rfl⟩⟩
  · exact ⟨1, by decide, Or.inr ⟨rfl, by omega⟩⟩
  · exact ⟨1, by decide, Or.inr ⟨rfl, by omega⟩⟩
  · exact ⟨1, by decide, Or.inr ⟨rfl, by omega⟩⟩
theorem slq {f g : Int → Int} {a b n m : Int} (hn : 0 ≤ n) (hm : 0 ≤ m) : sl f a n.toNat = sl g b m.toNat ↔ n = m ∧ ∀ i : Int, 0 ≤ i → i < m → f (a + i) % 256 = g (b + i) % 256 := by
  constructor
  · intro h
    have l := congrArg List.length h
    rw [sl_len, sl_len] at l
    have e : n = m := by omega
    refine ⟨e, fun i i0 i1 => ?_⟩
    rw [e] at h
    have := sl_inj _ _ _ h i.toNat (by omega)
    rw [show ((i.toNat : Nat) : Int) = i by omega] at this
    exact this
  · intro ⟨e, h⟩
    rw [e]
    exact sl_congr _ _ _ (fun i hi => h i (by omega) (by omega))
section TCG
variable {M0 M : FM}
theorem foN_cg (h : tsR M0 M) (e : Int) : ∀ n : Nat, foN M e n = foN M0 e n
  | 0 => rfl
  | n + 1 => by
    show foN M e n + (if M 171 (M 184 (e + n)) = 1 then 1 else 0) = foN M0 e n + (if M0 171 (M0 184 (e + n)) = 1 then 1 else 0)
    rw [foN_cg h e n, h.1 171 (by omega) (by omega), h.1 184 (by omega) (by omega)]
theorem toQ_cg (h : tsR M0 M) (f : Int → Int) (L : List Int) (x j : Int) : toQ f M L x j ↔ toQ f M0 L x j := by
  have e1 := (fe_cg h x).1
  have e2 := (fe_cg h x).2
  have en : (fun k : Nat => nmL M (fe M0 x + k)) = fun k : Nat => nmL M0 (fe M0 x + k) := by
    funext k
    unfold nmL
    rw [h.1 185 (by omega) (by omega), h.1 186 (by omega) (by omega), h.1 187 (by omega) (by omega)]
  unfold toQ tlC tlD tlX
  rw [e1, e2, foN_cg h, en, h.1 171 (by omega) (by omega), h.1 172 (by omega) (by omega), h.1 173 (by omega) (by omega), h.1 174 (by omega) (by omega), h.1 175 (by omega) (by omega), h.1 176 (by omega) (by omega), h.1 177 (by omega) (by omega), h.1 179 (by omega) (by omega), h.1 180 (by omega) (by omega), h.1 181 (by omega) (by omega), h.1 182 (by omega) (by omega), h.1 184 (by omega) (by omega)]
end TCG
/-- what counting leaves -/
def csF (M M2 : FM) : Prop := ∀ c : Nat, c ≠ 19 → c ≠ 20 → c ≠ 100 → (c < 129 ∨ 150 < c) → c ≠ 165 → c ≠ 166 → M2 c = M c
theorem csF_t {M M2 M3 : FM} (h : csF M M2) (g : csF M2 M3) : csF M M3 := fun c h1 h2 h3 h4 h5 h6 => (g c h1 h2 h3 h4 h5 h6).trans (h c h1 h2 h3 h4 h5 h6)
section CSTRAY2
variable {d nx zl : Nat} {K : Option TV → FH → Prop} {sh : Nat → Option Shp} {M : FM} {f : Int → Int} {s : Int}
theorem csF_m {M2 : FM} (h : csF M M2) (hm : mtC M f s) : mtC M2 f s := mtC_w hm (fun c hc => h c (by omega) (by omega) (by omega) (by omega) (by omega) (by omega))
theorem csF_T {M2 : FM} (h : csF M M2) (hT : treeR sh M) : treeR sh M2 := treeR_same hT (fun c hc => h c (by omega) (by omega) (by omega) (by omega) (by omega) (by omega)) (fun i _ _ => by rw [h 168 (by omega) (by omega) (by omega) (by omega) (by omega) (by omega)])
theorem csF_s {M2 : FM} (h : csF M M2) : tsR M M2 := ⟨fun c c1 c2 => h c (by omega) (by omega) (by omega) (by omega) (by omega) (by omega), fun i _ => by rw [h 168 (by omega) (by omega) (by omega) (by omega) (by omega) (by omega)]⟩
theorem copyTarget_G {IR IS LR LS : List Int} {B ids F n : Int} {pl h : Int → Int} {j : Int} (hL : ltC M IR IS LR LS B ids F n pl h) (hj : 1 ≤ j ∧ j ≤ n) (hk : kdT (le (lf IR) (pl j) 2) = 3) (k : ∀ M2 : FM, (∀ x : Nat, x ≠ 19 → x ≠ 20 → M2 x = M x) → M2 19 1 = le (lf IR) (pl j + 20) 4 → (∀ i : Int, 0 ≤ i → i < le (lf IR) (pl j + 20) 4 → M2 20 i % 256 = lf IR (pl j + 24 + i) % 256) → K none (sh, M2, nx, zl)) : fm_Y (d + 3) 214 [.ref 101, .int (Int32.ofInt j), .ref 19] (sh, M, nx, zl) K := by
  have nr := hL.1.2.1
  have hB := hL.1.1.2.1
  have n65 := hL.1.1.1.2.2.2
  obtain ⟨l1, l2, l3⟩ := lk_ok hB.2.1 hL.2.1 hj.1 hj.2 hk
  have ag := hL.1.1.1.2.1
  refine m214 [fx 101, ti j, fx 19] ?_
  refine ⟨by omega, ?_⟩
  rw [hL.1.2.2.1 j hj.1 hj.2]
  refine clearG_Y (d := d + 1) (a := 19) (b := 20) (na := 131072) (row19 sh) (fun M1 F1 s1 _ => ?_)
  have hL1 := ltC_to hL (M2 := M1) (fun c hc => F1 c (by omega))
  refine targetSize_Y hL1.1.1 (by omega) (fun _ => ?_)
  refine putG_Y (d := d + 1) (a := 19) (b := 20) (na := 131072) (c := 105) (nc := 65536) (row19 sh) rfl (by omega) (by omega) (by omega) (by omega) (by omega) (by omega) (by omega) (by omega) (fun M2 F2 s2 _ b2 _ => ?_)
  refine k M2 (fun x x1 x2 => (F2 x x1 x2).trans (F1 x x1)) (by rw [s2]; omega) (fun i i0 i1 => ?_)
  have e := b2 i i0 i1
  rw [s1, Int.zero_add] at e
  rw [e, F1 105 (by omega)]
  exact ag _ (by omega) (by omega)
theorem countStray_Y {L : List Int} (hs : s ≤ 131072) (hO : ftO f s) (hm : mtC M f s) (hT : treeR sh M) (hP : nuP M L) (hcl : ∀ x ∈ L, ∀ t : Nat, t < ec M x → M 184 (fe M x + t) ∈ L) (hn : le f 4 4 = L.length) (h18 : M 18 2 = L.length) (hN : ∀ (i : Nat) (x : Int), L[i]? = some x → M 21 ((i : Int) + 1) = M 11 x ∧ M (M 11 x).toNat 14 = (i : Int) + 1) (hkd : ∀ (i : Nat) (x : Int), L[i]? = some x → kdQ f ((i : Int) + 1) = M 171 x)
    (k : ∀ M2 : FM, csF M M2 → K (some (ti (stC (fun i => ∀ x : Int, L[i]? = some x → toQ f M L x ((i : Int) + 1)) L.length))) (sh, M2, nx, zl)) : fm_Y (d + 9) 209 [.ref 3] (sh, M, nx, zl) K := by
  have LL := nuP_len hT.1 hP
  have n20 := hT.1.2.2.2.1.1
  have nN := hT.1.1.1
  obtain ⟨P, hPq⟩ : ∃ P : Nat → Prop, P = fun i : Nat => ∀ x : Int, L[i]? = some x → toQ f M L x ((i : Int) + 1) := ⟨_, rfl⟩
  rw [← hPq] at k
  have LOOP : ∀ (N i : Nat) (M1 : FM) (y4 y5 : Option TV), L.length - i < N → i ≤ L.length → csF M M1 → fm_X (d + 8) kd209 12 [some (fx 3), some (fx 19), some (ti (stC P i)), some (ti ((i : Int) + 1)), y4, y5] [] (sh, M1, nx, zl) K := by
    intro N
    induction N with
    | zero =>
      intro i M1 y4 y5 hN
      omega
    | succ N ih =>
      intro i M1 y4 y5 hN2 hi f1
      have sr := stC_r P i
      have u2 : M1 18 2 = L.length := by rw [f1 18 (by omega) (by omega) (by omega) (by omega) (by omega) (by omega)]; exact h18
      refine s209_12 (d + 8) K _ _ _ ?_
      refine ⟨by omega, fun w => ?_, fun w => ?_⟩
      · have ei : i = L.length := by omega
        rw [ei]
        exact k M1 f1
      · obtain ⟨x, hx⟩ : ∃ x, L[i]? = some x := ⟨_, List.getElem?_eq_getElem (by omega)⟩
        have xL := List.mem_of_getElem? hx
        have xr := hP.2 x xL
        have m1 := csF_m f1 hm
        have T1 := csF_T f1 hT
        have ts1 := csF_s f1
        have xr1 : (0 ≤ x ∧ x < M1 168 5) ∧ live M1 x := by
          refine ⟨by rw [ts1.2 5 (by omega)]; exact xr.1, ?_⟩
          unfold live
          rw [ts1.1 177 (by omega) (by omega)]
          exact xr.2
        obtain ⟨a, u, v, ea, hS, ha3, hE, hFi, hLi, hDd⟩ := nd_of T1 xr1
        have e11 : M1 11 = M 11 := f1 11 (by omega) (by omega) (by omega) (by omega) (by omega) (by omega)
        obtain ⟨c21, c14⟩ := hN i x hx
        rw [← e11] at c21 c14
        have g21 : M1 21 ((i : Int) + 1) = a := by
          rw [f1 21 (by omega) (by omega) (by omega) (by omega) (by omega) (by omega), c21]
          exact ea
        have g14 : M1 a 14 = (i : Int) + 1 := by
          rw [ea, Int.toNat_natCast] at c14
          rw [f1 a (by omega) (by omega) (by omega) (by omega) (by omega) (by omega)]
          exact c14
        have kdx := hkd i x hx
        have k171 : M1 171 = M 171 := ts1.1 171 (by omega) (by omega)
        have kd1 : kdQ f ((i : Int) + 1) = M1 171 x := by rw [k171]; exact kdx
        have v1 : M1 a 1 = M1 171 x := hE.2.1
        have kr := (T1.1.1.2 x xr1.1.1 xr1.1.2).1
        have jr : 1 ≤ (i : Int) + 1 ∧ (i : Int) + 1 ≤ le f 4 4 := by omega
        refine ⟨by omega, fun m hm2 => ?_, fun hm2 => by omega⟩
        have em : m = a := by omega
        rw [em]
        -- the next
        have NXT : ∀ (M3 : FM) (v5 : Int), csF M1 M3 → (v5 = 0 ∧ toQ f M1 L x ((i : Int) + 1) ∨ v5 = 1 ∧ ¬ toQ f M1 L x ((i : Int) + 1)) → b209_222 (d + 8) (fW (d + 8) kd209 K) K [some (fx 3), some (fx 19), some (ti (stC P i)), some (ti ((i : Int) + 1)), some (gr a), some (ti v5)] [] (sh, M3, nx, zl) := by
          intro M3 v5 f3 hv5
          have tq := toQ_cg ts1 f L x ((i : Int) + 1)
          have PE : P i ↔ toQ f M L x ((i : Int) + 1) := by
            rw [hPq]
            exact ⟨fun h => h x hx, fun h y hy => by rw [hx] at hy; rw [← Option.some.inj hy]; exact h⟩
          have F := ih (i + 1) M3 (some (gr a)) (some (ti v5)) (by omega) (by omega) (csF_t f1 f3)
          have es : stC P (i + 1) = stC P i + cif (P i) 0 1 := rfl
          rw [show ((i + 1 : Nat) : Int) + 1 = (i : Int) + 1 + 1 by omega, es] at F
          rcases hv5 with ⟨q1, q2⟩ | ⟨q1, q2⟩
          · rw [cif_pos (PE.2 (tq.1 q2))] at F
            exact ⟨by omega, fun _ => F, fun w2 => absurd q1 w2⟩
          · rw [cif_neg (fun h => q2 (tq.2 (PE.1 h)))] at F
            exact ⟨by omega, fun w2 => by omega, fun _ => F⟩
        -- with what was found so far
        have B66 : ∀ (M3 : FM) (v5 : Int), csF M1 M3 → (v5 = 0 ∧ (tlC (lf (rwR (qI f))) (lf (rwR (qD f))) M1 (plf f ((i : Int) + 1)) x ∧ tlD (lf (rwR (qI f))) M1 (plf f ((i : Int) + 1)) x) ∧ (M1 171 x = 1 → entQ (lf (rwR (qL f))) (fun t => nuO L (M1 184 (fe M1 x + t))) (fun t => nmL M1 (fe M1 x + t)) (ec M1 x) (lsE (rwR (qI f)) (rwS (qI f)) (rwR (qL f)) (rwS (qL f)) (hf f) (plf f ((i : Int) + 1))) 0) ∨ v5 = 1 ∧ ¬ ((tlC (lf (rwR (qI f))) (lf (rwR (qD f))) M1 (plf f ((i : Int) + 1)) x ∧ tlD (lf (rwR (qI f))) M1 (plf f ((i : Int) + 1)) x) ∧ (M1 171 x = 1 → entQ (lf (rwR (qL f))) (fun t => nuO L (M1 184 (fe M1 x + t))) (fun t => nmL M1 (fe M1 x + t)) (ec M1 x) (lsE (rwR (qI f)) (rwS (qI f)) (rwR (qL f)) (rwS (qL f)) (hf f) (plf f ((i : Int) + 1))) 0))) → b209_66 (d + 8) (fW (d + 8) kd209 K) K [some (fx 3), some (fx 19), some (ti (stC P i)), some (ti ((i : Int) + 1)), some (gr a), y5] [ti v5] (sh, M3, nx, zl) := by
          intro M3 v5 f3 hv5
          have m3 := csF_m f3 m1
          have a3 : M3 a = M1 a := f3 a (by omega) (by omega) (by omega) (by omega) (by omega) (by omega)
          have v13 : M3 a 1 = M1 171 x := by rw [a3]; exact v1
          have v501 : v5 = 0 ∨ v5 = 1 := by omega
          obtain ⟨g, hg⟩ : ∃ g : Int → Int, g = lf (rwR (qI f)) := ⟨_, rfl⟩
          obtain ⟨p, hp⟩ : ∃ p : Int, p = plf f ((i : Int) + 1) := ⟨_, rfl⟩
          refine ⟨_, hS, ?_⟩
          refine ⟨by omega, fun n3 => ?_, fun n3 => ?_⟩
          · refine ⟨_, hS, ?_⟩
            refine ⟨by omega, fun n2 => ?_, fun n2 => ?_⟩
            · refine NXT M3 v5 f3 ?_
              rcases hv5 with ⟨q1, q2, q3⟩ | ⟨q1, q2⟩
              · exact Or.inl ⟨q1, q2, q3, fun q => absurd q (by omega), fun q => absurd q (by omega)⟩
              · exact Or.inr ⟨q1, fun q => q2 ⟨q.1, q.2.1⟩⟩
            · -- a file
              have k2 : M1 171 x = 2 := by omega
              have kq : kdT (le (lf (rwR (qI f))) (plf f ((i : Int) + 1)) 2) = 2 := by rw [← k2]; exact kd1
              have fz := (hFi.2.1 k2).1
              have fb := (hFi.2.1 k2).2
              have f0 := hFi.1
              have tb := T1.1.2.1.1
              have tA := T1.2.1
              have e91 : M1 9 1 = M1 168 17 := tA.2.2.2.2
              refine ⟨_, hS, ?_⟩
              have e12 : M3 a 12 = M1 180 x := by rw [a3]; exact fz
              have DT := hO.2.2.2.2.2.2.2
              refine copyBytes_Y (d := d + 1) (a := 19) (b := 20) (na := 131072) m3.1 DT.2.1 jr kq (DT.2.2 _ jr.1 jr.2 kq) (by omega) (by omega) (row19 sh) (by unfold rwO; omega) (by omega) (fun M4 F4 s4 b4 => ?_)
              have f4 : csF M1 M4 := csF_t f3 (fun c h1 h2 h3 h4 h5 h6 => F4 c h1 h2 h4 h5 h6)
              have a4 : M4 a = M1 a := f4 a (by omega) (by omega) (by omega) (by omega) (by omega) (by omega)
              rw [← hg, ← hp] at s4 b4
              obtain ⟨z, hz⟩ : ∃ z : Int, z = fSz g p := ⟨_, rfl⟩
              rw [← hz] at s4 b4
              have rd0 : 0 ≤ rdN z 0 (M3 a 12) ∧ rdN z 0 (M3 a 12) ≤ 65536 ∧ (z = M3 a 12 → rdN z 0 (M3 a 12) = M3 a 12) ∧ (0 ≤ z) := by
                have zz := (fl_ok (by have := (su_B hO.1).1.2.1; exact this) (inS_V (su_B hO.1).1.2.1 (Int.natCast_nonneg _) (by omega) hO.2.2.2.2.1.1) jr.1 jr.2 kq).1.1.1
                rw [← hg, ← hp, ← hz] at zz
                unfold rdN
                omega
              refine ⟨_, hS, ?_⟩
              refine ⟨_, hS, ?_⟩
              have e12' : M4 a 12 = M1 180 x := by rw [a4]; exact fz
              have e11' : M4 a 11 = M1 a 11 := by rw [a4]
              refine order_I (d := d + 7) (a := 20) (na := 131072) (b := 10) (nb := 65536) rfl rfl (by omega) (by omega) (by omega) (by omega) (by omega) (by omega) (by omega) (by omega) ?_
              have oq := ordL_eq (sl (M4 20) 0 (M4 19 1).toNat) (sl (M4 10) (M4 a 11) (M4 a 12).toNat)
              have orr := ordL_sl (M4 20) (M4 10) 0 (M4 a 11) (M4 19 1).toNat (M4 a 12).toNat
              have eB : sl (M4 10) (M4 a 11) (M4 a 12).toNat = sl (M1 181) (M1 179 x) (M1 180 x).toNat := by
                rw [f4 10 (by omega) (by omega) (by omega) (by omega) (by omega) (by omega), a4]
                exact fb
              have sq := slq (f := M4 20) (g := M1 181) (a := 0) (b := M1 179 x) (n := M4 19 1) (m := M1 180 x) (by omega) (by omega)
              rw [← eB] at sq
              -- bytes alike
              have BY : z = M1 180 x → ((∀ i2 : Int, 0 ≤ i2 → i2 < M1 180 x → M4 20 (0 + i2) % 256 = M1 181 (M1 179 x + i2) % 256) ↔ ∀ i2 : Int, 0 ≤ i2 → i2 < M1 180 x → ctF f g (lf (rwR (qF f))) (le f 12 4) p i2 % 256 = M1 181 (M1 179 x + i2) % 256) := fun ez => by
                have er : rdN z 0 (M3 a 12) = M1 180 x := by rw [rd0.2.2.1 (by omega)]; exact e12
                rw [er] at b4
                constructor
                · intro h i2 h0 h1
                  have := b4 i2 h0 h1
                  rw [Int.zero_add] at this
                  rw [← this]
                  have q := h i2 h0 h1
                  rw [Int.zero_add] at q
                  exact q
                · intro h i2 h0 h1
                  have := b4 i2 h0 h1
                  rw [Int.zero_add] at this ⊢
                  rw [this]
                  exact h i2 h0 h1
              have YES : ∀ y : Int, y = 1 → ¬ (z = M1 180 x ∧ ∀ i2 : Int, 0 ≤ i2 → i2 < M1 180 x → ctF f g (lf (rwR (qF f))) (le f 12 4) p i2 % 256 = M1 181 (M1 179 x + i2) % 256) → b209_219 (d + 8) (fW (d + 8) kd209 K) K [some (fx 3), some (fx 19), some (ti (stC P i)), some (ti ((i : Int) + 1)), some (gr a), some (ti v5)] [ti y, ti v5] (sh, M4, nx, zl) := by
                intro y hy hno
                obtain ⟨z2, z3, z4⟩ := or01 v501 (Or.inr hy)
                refine ⟨z2, z3, NXT M4 z2 f4 (Or.inr ⟨by omega, fun q => hno ?_⟩)⟩
                have := q.2.2.1 k2
                rw [← hg, ← hp, ← hz] at this
                exact this
              refine ⟨by omega, fun w2 => ?_, fun w2 => ?_⟩
              · refine YES 1 rfl (fun q => w2 ?_)
                rw [oq, sq]
                exact ⟨by rw [s4, rd0.2.2.1 (by omega)]; exact e12, (BY q.1).2 q.2⟩
              · refine tellQ (d := d + 4) hs hO (csF_m f4 m1) jr (by omega) ?_
                have v5e : abV (lf (rwR (qI f))) (lf (rwR (qD f))) (le f 12 4) (plf f ((i : Int) + 1)) (rof f) (paF (lf (rwR (qI f))) (plf f) ((i : Int) + 1)) (eaQ f ((i : Int) + 1)) ((i : Int) + 1) 5 = z := by
                  show (if kdT (le (lf (rwR (qI f))) (plf f ((i : Int) + 1)) 2) = 2 then fSz (lf (rwR (qI f))) (plf f ((i : Int) + 1)) else _) = z
                  rw [if_pos kq, hz, hg, hp]
                rw [v5e]
                refine ⟨_, hS, ?_⟩
                have zz := (fl_ok (su_B hO.1).1.2.1 (inS_V (su_B hO.1).1.2.1 (Int.natCast_nonneg _) (by omega) hO.2.2.2.2.1.1) jr.1 jr.2 kq).1.1
                rw [← hg, ← hp, ← hz] at zz
                refine ⟨by omega, ?_⟩
                refine ⟨by omega, fun w3 => ?_, fun w3 => YES 1 rfl (fun q => w3 (by rw [e12']; exact q.1))⟩
                have ez : z = M1 180 x := by omega
                have sb := (sq.1 (oq.1 w2)).2
                obtain ⟨z2, z3, z4⟩ := or01 v501 (Or.inl (rfl : (0 : Int) = 0))
                refine ⟨z2, z3, NXT M4 z2 f4 ?_⟩
                rcases hv5 with ⟨q1, q2, q3⟩ | ⟨q1, q2⟩
                · refine Or.inl ⟨by omega, q2, q3, fun _ => ?_, fun q => absurd q (by omega)⟩
                  rw [← hg, ← hp, ← hz]
                  exact ⟨ez, (BY ez).1 sb⟩
                · exact Or.inr ⟨by omega, fun q => q2 ⟨q.1, q.2.1⟩⟩
          · -- a link
            have k3 : M1 171 x = 3 := by omega
            have kq : kdT (le (lf (rwR (qI f))) (plf f ((i : Int) + 1)) 2) = 3 := by rw [← k3]; exact kd1
            obtain ⟨r, rb, ht, hD⟩ := hLi.1 k3
            subst ht
            obtain ⟨⟨s1, s2⟩, ⟨r1, r2, r3⟩, r4, r5, r6⟩ := hD
            refine copyTarget_G (d := d + 5) m3.1.1 jr kq (fun M4 F4 s4 b4 => ?_)
            have f4 : csF M1 M4 := csF_t f3 (fun c h1 h2 h3 h4 h5 h6 => F4 c h1 h2)
            have a4 : M4 a = M1 a := f4 a (by omega) (by omega) (by omega) (by omega) (by omega) (by omega)
            rw [← hg, ← hp] at s4 b4
            have lk := lk_ok (su_B hO.1).1.2.1 (inS_V (su_B hO.1).1.2.1 (Int.natCast_nonneg _) (by omega) hO.2.2.2.2.1.1) jr.1 jr.2 kq
            rw [← hg, ← hp] at lk
            have r1r : M4 r 1 = (sl (M1 182) (M1 179 x) (M1 180 x).toNat).length := by
              rw [f4 r (by omega) (by omega) (by omega) (by omega) (by omega) (by omega)]
              exact r5
            have lT : ((sl (M1 182) (M1 179 x) (M1 180 x).toNat).length : Int) = M1 180 x := by
              have tb := (T1.1.2.1.2 x xr1.1.1 xr1.1.2).1
              rw [sl_len]
              omega
            refine ⟨_, hS, ?_⟩
            refine ⟨_, s1, ?_⟩
            refine ⟨_, hS, ?_⟩
            refine ⟨_, s1, ?_⟩
            refine order_I (d := d + 7) (a := 20) (na := 131072) (b := rb) (nb := (sl (M1 182) (M1 179 x) (M1 180 x).toNat).length) rfl s2 (by omega) (by omega) (by omega) (by omega) (by omega) (by omega) (by omega) (by omega) ?_
            have oq := ordL_eq (sl (M4 20) 0 (M4 19 1).toNat) (sl (M4 rb) 0 (M4 r 1).toNat)
            have orr := ordL_sl (M4 20) (M4 rb) 0 0 (M4 19 1).toNat (M4 r 1).toNat
            have eB : sl (M4 rb) 0 (M4 r 1).toNat = sl (M1 182) (M1 179 x) (M1 180 x).toNat := by
              rw [r1r, Int.toNat_natCast, f4 rb (by omega) (by omega) (by omega) (by omega) (by omega) (by omega)]
              exact r6
            have sq := slq (f := M4 20) (g := M1 182) (a := 0) (b := M1 179 x) (n := M4 19 1) (m := M1 180 x) (by omega) (by omega)
            rw [← eB] at sq
            have TG : (le g (p + 20) 4 = M1 180 x ∧ ∀ i2 : Int, 0 ≤ i2 → i2 < M1 180 x → g (p + 24 + i2) % 256 = M1 182 (M1 179 x + i2) % 256) ↔ ordL (sl (M4 20) 0 (M4 19 1).toNat) (sl (M4 rb) 0 (M4 r 1).toNat) = 0 := by
              have b5 : ∀ i2 : Int, 0 ≤ i2 → i2 < le g (p + 20) 4 → M4 20 i2 % 256 = g (p + 24 + i2) % 256 := by
                rw [hg] at b4 ⊢
                exact b4
              rw [oq, sq, s4]
              constructor
              · intro ⟨h1, h2⟩
                refine ⟨h1, fun i2 i0 i1 => ?_⟩
                rw [Int.zero_add, b5 i2 i0 (by omega)]
                exact h2 i2 i0 i1
              · intro ⟨h1, h2⟩
                refine ⟨h1, fun i2 i0 i1 => ?_⟩
                have := h2 i2 i0 i1
                rw [Int.zero_add, b5 i2 i0 (by omega)] at this
                exact this
            refine ⟨by omega, fun w2 => ?_, fun w2 => ?_⟩
            · obtain ⟨z2, z3, z4⟩ := or01 v501 (Or.inl (rfl : (0 : Int) = 0))
              refine ⟨z2, z3, NXT M4 z2 f4 ?_⟩
              rcases hv5 with ⟨q1, q2, q3⟩ | ⟨q1, q2⟩
              · refine Or.inl ⟨by omega, q2, q3, fun q => absurd q (by omega), fun _ => ?_⟩
                rw [← hg, ← hp]
                exact TG.2 w2
              · exact Or.inr ⟨by omega, fun q => q2 ⟨q.1, q.2.1⟩⟩
            · obtain ⟨z2, z3, z4⟩ := or01 v501 (Or.inr (rfl : (1 : Int) = 1))
              refine ⟨z2, z3, NXT M4 z2 f4 (Or.inr ⟨by omega, fun q => w2 ?_⟩)⟩
              have := q.2.2.2 k3
              rw [← hg, ← hp] at this
              exact TG.1 this
        refine differs_Y (d := d + 3) hs hO m1 T1 (fzF_r sh M1) xr1 ea g14 jr kd1 (fun z hz => ?_)
        rcases hz with ⟨z1, z2⟩ | ⟨z1, z2⟩
        · rw [z1]
          refine ⟨by omega, fun w2 => absurd rfl w2, fun _ => ?_⟩
          refine ⟨_, hS, ?_⟩
          refine ⟨by omega, fun w2 => ?_, fun w2 => ?_⟩
          · exact B66 M1 0 (fun _ _ _ _ _ _ _ => rfl) (Or.inl ⟨rfl, z2, fun q => absurd q (by omega)⟩)
          · have k1 : M1 171 x = 1 := by omega
            have ec1 := (fe_cg ts1 x).2
            have fe1 := (fe_cg ts1 x).1
            refine entriesDiffer_Y (d := d + 3) (L := L) hs hO m1 T1 (fzF_r sh M1) xr1 ea g14 jr (by rw [kd1]; exact k1) (fun t ht => ?_) (fun M3 zz f3 hz3 => ?_)
            · have yL : M1 184 (fe M1 x + t) ∈ L := by
                rw [ts1.1 184 (by omega) (by omega), fe1]
                exact hcl x xL t (by omega)
              obtain ⟨q, hq, ey⟩ := List.getElem_of_mem yL
              have hy : L[q]? = some (M1 184 (fe M1 x + t)) := by rw [← ey]; exact List.getElem?_eq_getElem hq
              have nr := nuO_r yL
              have c14y := (hN q _ hy).2
              rw [nu_at hP.1 hy] at nr ⊢
              refine ⟨?_, by omega, by omega⟩
              obtain ⟨u3, v3, -, hc3, -⟩ := ce_of (x := x) (j := t) T1 ht
              have ec3 : ceC M1 x t = (M 11 (M1 184 (fe M1 x + t))).toNat := by
                unfold ceC
                rw [e11]
              rw [f1 _ (by omega) (by omega) (by omega) (by omega) (by omega) (by omega), ec3]
              exact c14y
            · have f3' : csF M1 M3 := fun c _ _ h3 _ _ _ => f3 c h3
              rcases hz3 with ⟨q1, q2⟩ | ⟨q1, q2⟩
              · rw [q1]
                exact ⟨by omega, fun _ => B66 M3 0 f3' (Or.inl ⟨rfl, z2, fun _ => q2⟩), fun w3 => absurd rfl w3⟩
              · rw [q1]
                exact ⟨by omega, fun w3 => by omega, fun _ => B66 M3 1 f3' (Or.inr ⟨rfl, fun q => q2 (q.2 k1)⟩)⟩
        · rw [z1]
          exact ⟨by omega, fun _ => B66 M1 1 (fun _ _ _ _ _ _ _ => rfl) (Or.inr ⟨rfl, fun q => z2 q.1⟩), fun w2 => by omega⟩
  refine m209 [fx 3] ?_
  have F := LOOP (L.length + 1) 0 M none none (by omega) (by omega) (fun _ _ _ _ _ _ _ => rfl)
  exact F
end CSTRAY2
