/-! UNPACKING, the class: the lengths of tellers -/
def tel (i : Int) : Int := if i = 0 then 16 else if i = 1 then 17 else if i = 2 then 18 else if i = 3 then 0 else if i % 2 = 0 then 6 + i / 2 else 9 - i / 2
theorem tel_rng {i : Int} (h0 : 0 ≤ i) (h1 : i < 19) : 0 ≤ tel i ∧ tel i < 19 := by
  unfold tel
  split
  · omega
  · split
    · omega
    · split
      · omega
      · split
        · omega
        · split <;> omega
def tlU (f : Int → Int) (p c : Int) (g : Int → Int) : Nat → Int → Int
  | 0 => g
  | i + 1 => ur (tlU f p c g i) (tel i) (if (i : Int) < c then bv f (p + 3 * i) 3 else 0)
theorem tlU_ind (f : Int → Int) (p c : Int) (g g2 : Int → Int) (t : Int) : ∀ (n i : Nat), i < n → tel i = t → tlU f p c g n t = tlU f p c g2 n t
  | 0, i, h, _ => by omega
  | n + 1, i, h, e => by
    show ur (tlU f p c g n) (tel n) _ t = ur (tlU f p c g2 n) (tel n) _ t
    by_cases q : t = tel n
    · rw [q, ur_at, ur_at]
    · rw [ur_ne q, ur_ne q]
      refine tlU_ind f p c g g2 t n i ?_ e
      by_cases q2 : i = n
      · rw [q2] at e
        exact absurd e.symm q
      · omega
theorem tel_ex {t : Int} (h0 : 0 ≤ t) (h1 : t < 19) : ∃ i : Nat, i < 19 ∧ tel i = t := by
  refine ⟨(if t = 16 then 0 else if t = 17 then 1 else if t = 18 then 2 else if t = 0 then 3 else if t < 8 then 19 - 2 * t else 2 * t - 12).toNat, ?_, ?_⟩
  · split
    · decide
    · split
      · decide
      · split
        · decide
        · split
          · decide
          · split <;> omega
  · unfold tel
    by_cases a1 : t = 16
    · rw [a1]
      decide
    · by_cases a2 : t = 17
      · rw [a2]
        decide
      · by_cases a3 : t = 18
        · rw [a3]
          decide
        · by_cases a4 : t = 0
          · rw [a4]
            decide
          · rw [if_neg a1, if_neg a2, if_neg a3, if_neg a4]
            by_cases a5 : t < 8
            · rw [if_pos a5, if_neg (by omega), if_neg (by omega), if_neg (by omega), if_neg (by omega), if_neg (by omega)]
              omega
            · rw [if_neg a5, if_neg (by omega), if_neg (by omega), if_neg (by omega), if_neg (by omega), if_pos (by omega)]
              omega
def tlS (f : Int → Int) (p c : Int) : Int → Int := tlU f p c (fun _ => 0) 19
theorem tlU_S (f : Int → Int) (p c : Int) (g : Int → Int) {t : Int} (h0 : 0 ≤ t) (h1 : t < 19) : tlU f p c g 19 t = tlS f p c t := by
  obtain ⟨i, i1, i2⟩ := tel_ex h0 h1
  exact tlU_ind f p c g _ t 19 i i1 i2
theorem tlU_rng (f : Int → Int) (p c : Int) (t : Int) : ∀ n : Nat, 0 ≤ tlU f p c (fun _ => 0) n t ∧ tlU f p c (fun _ => 0) n t ≤ 15
  | 0 => by
    show (0 : Int) ≤ 0 ∧ (0 : Int) ≤ 15
    omega
  | n + 1 => by
    have h := tlU_rng f p c t n
    show 0 ≤ ur (tlU f p c (fun _ => 0) n) (tel n) (if (n : Int) < c then bv f (p + 3 * n) 3 else 0) t ∧ ur (tlU f p c (fun _ => 0) n) (tel n) (if (n : Int) < c then bv f (p + 3 * n) 3 else 0) t ≤ 15
    by_cases q : t = tel n
    · rw [q, ur_at]
      have z := bv_rng f (p + 3 * n) 3
      have z2 : (2 : Int) ^ 3 = 8 := by decide
      split <;> omega
    · rw [ur_ne q]
      exact h
/-- the head of a block with codes of its own -/
def teH (f : Int → Int) (p : Int) : Int := bv f p 5 + 257
def teD (f : Int → Int) (p : Int) : Int := bv f (p + 5) 5 + 1
def teC (f : Int → Int) (p : Int) : Int := bv f (p + 10) 4 + 4
def teK (f : Int → Int) (E p : Int) : Prop := p + 14 + 3 * teC f p ≤ E ∧ teH f p ≤ 286 ∧ teD f p ≤ 30 ∧ okL (tlS f (p + 14) (teC f p)) 19 0
theorem cd144 (sh : Nat → Option Shp) : cdS sh 144 150 145 146 19 := ⟨⟨147, 148, 149, rfl⟩, ⟨rfl, rfl, rfl⟩, by decide, by decide, by decide, by decide⟩
theorem cd130 (sh : Nat → Option Shp) : cdS sh 130 136 131 132 288 := ⟨⟨133, 134, 135, rfl⟩, ⟨rfl, rfl, rfl⟩, by decide, by decide, by decide, by decide⟩
theorem cd137 (sh : Nat → Option Shp) : cdS sh 137 143 138 139 32 := ⟨⟨140, 141, 142, rfl⟩, ⟨rfl, rfl, rfl⟩, by decide, by decide, by decide, by decide⟩
theorem cd151 (sh : Nat → Option Shp) : cdS sh 151 157 152 153 288 := ⟨⟨154, 155, 156, rfl⟩, ⟨rfl, rfl, rfl⟩, by decide, by decide, by decide, by decide⟩
theorem cd158 (sh : Nat → Option Shp) : cdS sh 158 164 159 160 32 := ⟨⟨161, 162, 163, rfl⟩, ⟨rfl, rfl, rfl⟩, by decide, by decide, by decide, by decide⟩
/-- what may change besides: codes and lengths, and two numbers -/
def uk5 (M M2 : FM) (mc : Nat) : Prop := ∀ c : Nat, c ≠ 129 → c ≠ mc → (c < 130 ∨ 150 < c) → c ≠ 165 → M2 c = M c
section UTELL
variable {d nx zl : Nat} {K : Option TV → FH → Prop} {sh : Nat → Option Shp} {M0 M : FM} {sc mc nS nM : Nat}
theorem bS_pos {f : Int → Int} {E p : Int} {n : Nat} {o : List Int} (h : p + n ≤ E) : bS f E n (some (p, o)) = (bv f p n, some (p + n, o)) := if_pos h
theorem bS_neg {f : Int → Int} {E p : Int} {n : Nat} {o : List Int} (h : ¬ p + n ≤ E) : bS f E n (some (p, o)) = (0, none) := if_neg h
/-- other cells may change: the state holds on -/
theorem uR_up {R : FM} {st : St} (hR : uR M0 M mc st) (h1 : ∀ c : Nat, c = 129 ∨ c = mc → R c = M c) (h2 : ∀ c : Nat, (c < 130 ∨ 150 < c) → c ≠ 165 → R c = M c) : uR M0 R mc st := by
  have hK := uR_K hR
  have e1 := h1 129 (Or.inl rfl)
  have e2 := h1 mc (Or.inr rfl)
  have hK2 : uK M0 R mc := by
    unfold uK
    rw [e1, e2]
    exact ⟨hK.1, hK.2.1, fun c a b e g => (h2 c e g).trans (hK.2.2 c a b e g)⟩
  cases st with
  | none =>
    refine ⟨hK2, ?_⟩
    rw [e1]
    exact hR.2
  | some q =>
    obtain ⟨p, o⟩ := q
    refine ⟨hK2, ?_, hR.2.2⟩
    rw [e1, e2]
    exact hR.2.1
/-- the two numbers -/
theorem uR_n {st : St} (hmc : mc ≠ 129) (hR : uR M0 M mc st) {i x : Int} (hi : i = 15 ∨ i = 16) : uR M0 (um M 129 (ur (M 129) i x)) mc st := by
  have hK := uR_K hR
  have e2 : um M 129 (ur (M 129) i x) mc = M mc := um_ne hmc
  have hK2 : uK M0 (um M 129 (ur (M 129) i x)) mc := by
    refine ⟨fun j a b c e g => ?_, fun j hj => by rw [e2]; exact hK.2.1 j hj, fun c a b e g => by rw [um_ne a]; exact hK.2.2 c a b e g⟩
    rw [um_at, ur_ne (by omega)]
    exact hK.1 j a b c e g
  cases st with
  | none =>
    refine ⟨hK2, ?_⟩
    rw [um_at, ur_ne (by omega)]
    exact hR.2
  | some q =>
    obtain ⟨p, o⟩ := q
    refine ⟨hK2, ?_, hR.2.2⟩
    rw [e2, um_at, ur_ne (by omega), ur_ne (by omega), ur_ne (by omega)]
    exact hR.2.1
/-- the loop, once something has failed -/
theorem te34X {c : Int} (hC : uC sh M0 sc mc nS nM) (hTel : ∀ i : Int, 0 ≤ i → i < 19 → M0 1 i = tel i) (hm1 : mc ≠ 1) (k : ∀ M2 : FM, uK M0 M2 mc → K (some (ti 0)) (sh, M2, nx, zl)) (hc : 0 ≤ c ∧ c ≤ 100) : ∀ (N i : Nat) (M2 : FM), i + N = 19 → uR M0 M2 mc none → fm_X (d + 1) kd150 34 [some (fx 129), some (ti c), some (ti i)] [] (sh, M2, nx, zl) K := by
  have hC0 := hC
  obtain ⟨⟨⟨u1, u2⟩, u3, u4⟩, ⟨u5, u6, u7, u8⟩, ⟨u9, u10⟩, ⟨u11, u12⟩, u13, u14⟩ := hC
  intro N
  induction N with
  | zero =>
    intro i M2 a1 a2
    have hf := a2.2
    refine s150_34 (d + 1) K _ _ _ ?_
    refine ⟨by omega, fun w => ?_, fun w => by omega⟩
    refine ⟨by omega, fun w2 => ?_, fun w2 => by omega⟩
    exact ⟨Or.inl rfl, k M2 a2.1⟩
  | succ N ih =>
    intro i M2 a1 a2
    have e1 : M2 1 = M0 1 := a2.1.2.2 1 (by omega) (fun e => hm1 e.symm) (by omega) (by omega)
    have e2 : M2 1 i = tel i := by rw [e1]; exact hTel i (by omega) (by omega)
    have r := tel_rng (i := i) (by omega) (by omega)
    have ST : ∀ (M3 : FM) (v : Int), uR M0 M3 mc none → b150_63 (d + 1) (fW (d + 1) kd150 K) K [some (fx 129), some (ti c), some (ti i)] [ti v, ti (M2 1 i), fx 165] (sh, M3, nx, zl) := by
      intro M3 v h3
      refine ⟨by omega, ?_⟩
      exact ih (i + 1) _ (by omega) (uR_up h3 (fun c hc => by rw [um_ne (by omega)]) (fun c _ hc => by rw [um_ne hc]))
    refine s150_34 (d + 1) K _ _ _ ?_
    refine ⟨by omega, fun w => by omega, fun w => ?_⟩
    refine ⟨by omega, ?_⟩
    refine ⟨by omega, fun w2 => ST M2 0 a2, fun w2 => ?_⟩
    refine bits_Y (n := 3) hC0 a2 (by omega) (fun M3 t1 t2 => ?_)
    exact ST M3 _ t1
theorem te34 {p c h e : Int} {o : List Int} (hC : uC sh M0 sc mc nS nM) (hTel : ∀ i : Int, 0 ≤ i → i < 19 → M0 1 i = tel i) (hm1 : mc ≠ 1) (hc : 0 ≤ c ∧ c ≤ 19) (hh : 0 ≤ h ∧ h ≤ 1000) (he : 0 ≤ e ∧ e ≤ 1000) (hp : 0 ≤ p)
    (k0 : ∀ M2 : FM, ¬ (p + 3 * c ≤ M0 129 2 ∧ h ≤ 286 ∧ e ≤ 30 ∧ okL (tlS (M0 sc) p c) 19 0) → uK M0 M2 mc → K (some (ti 0)) (sh, M2, nx, zl))
    (k1 : ∀ M2 : FM, p + 3 * c ≤ M0 129 2 → h ≤ 286 → e ≤ 30 → okL (tlS (M0 sc) p c) 19 0 → uR M0 M2 mc (some (p + 3 * c, o)) → M2 129 15 = h → M2 129 16 = e → cdV M2 150 145 (tlS (M0 sc) p c) 19 → K (some (ti 1)) (sh, M2, nx, zl)) : ∀ (N i : Nat) (M2 : FM) (g : Int → Int), i + N = 19 → uR M0 M2 mc (some (p + 3 * (if (i : Int) < c then (i : Int) else c), o)) → (∀ t : Int, 0 ≤ t → t < 19 → M2 165 t = tlU (M0 sc) p c g i t) → M2 129 15 = h → M2 129 16 = e → fm_X (d + 1) kd150 34 [some (fx 129), some (ti c), some (ti i)] [] (sh, M2, nx, zl) K := by
  have hC0 := hC
  obtain ⟨⟨⟨u1, u2⟩, u3, u4⟩, ⟨u5, u6, u7, u8⟩, ⟨u9, u10⟩, ⟨u11, u12⟩, u13, u14⟩ := hC
  have hmc : mc ≠ 129 := by omega
  intro N
  induction N with
  | zero =>
    intro i M2 g a1 a2 a3 a4 a5
    rw [if_neg (by omega)] at a2
    have f8 := a2.2.1.2.1
    have pE := a2.2.2.1.2
    refine s150_34 (d + 1) K _ _ _ ?_
    refine ⟨by omega, fun w => ?_, fun w => by omega⟩
    refine ⟨by omega, fun w2 => by omega, fun w2 => ?_⟩
    refine ⟨by omega, fun w3 => ⟨Or.inl rfl, k0 M2 (by omega) a2.1⟩, fun w3 => ?_⟩
    refine ⟨by omega, fun w4 => ⟨Or.inl rfl, k0 M2 (by omega) a2.1⟩, fun w4 => ?_⟩
    have ei : i = 19 := by omega
    rw [ei] at a3
    refine take_Y (ls := tlS (M0 sc) p c) (n := 19) (nF := 320) (z := 0) (cd144 sh) (by omega) rfl (by decide) (by omega) (by omega) (fun s hs => ?_) (Or.inl rfl) (fun r M3 q1 q2 q3 => ?_)
    · have e1 := a3 s (by omega) (by omega)
      rw [tlU_S (M0 sc) p c g (by omega) (by omega)] at e1
      rw [show (0 : Int) + (s : Int) = s by omega]
      exact ⟨e1, tlU_rng (M0 sc) p c s 19⟩
    · have hR3 : uR M0 M3 mc (some (p + 3 * c, o)) := uR_up a2 (fun c hc => q3 c (by omega) (by omega) (by omega)) (fun c h1 _ => q3 c (by omega) (by omega) (by omega))
      rcases q1 with ⟨q1, q4⟩ | ⟨q1, q4⟩
      · rw [q1]
        refine ⟨by omega, fun z => by omega, fun _ => ?_⟩
        refine ⟨Or.inr rfl, ?_⟩
        have e129 : M3 129 = M2 129 := q3 129 (by omega) (by omega) (by omega)
        exact k1 M3 pE (by omega) (by omega) q4 hR3 (by rw [e129]; exact a4) (by rw [e129]; exact a5) q2
      · rw [q1]
        refine ⟨by omega, fun _ => ?_, fun z => absurd rfl z⟩
        exact ⟨Or.inl rfl, k0 M3 (fun z => q4 z.2.2.2) hR3.1⟩
  | succ N ih =>
    intro i M2 g a1 a2 a3 a4 a5
    have e1 : M2 1 = M0 1 := a2.1.2.2 1 (by omega) (fun e => hm1 e.symm) (by omega) (by omega)
    have e2 : M2 1 i = tel i := by rw [e1]; exact hTel i (by omega) (by omega)
    have r := tel_rng (i := i) (by omega) (by omega)
    refine s150_34 (d + 1) K _ _ _ ?_
    refine ⟨by omega, fun w => by omega, fun w => ?_⟩
    refine ⟨by omega, ?_⟩
    refine ⟨by omega, fun w2 => ?_, fun w2 => ?_⟩
    · rw [if_neg (by omega)] at a2
      refine ⟨by omega, ?_⟩
      refine ih (i + 1) _ g (by omega) ?_ (fun t t0 t1 => ?_) ?_ ?_
      · rw [if_neg (by omega)]
        exact uR_up a2 (fun c hc => by rw [um_ne (by omega)]) (fun c _ hc => by rw [um_ne hc])
      · rw [um_at, e2]
        show _ = ur (tlU (M0 sc) p c g i) (tel i) (if (i : Int) < c then bv (M0 sc) (p + 3 * i) 3 else 0) t
        rw [if_neg (by omega)]
        by_cases q : t = tel i
        · rw [q, ur_at, ur_at]
        · rw [ur_ne q, ur_ne q]
          exact a3 t t0 t1
      · rw [um_ne (by decide)]
        exact a4
      · rw [um_ne (by decide)]
        exact a5
    · rw [if_pos (by omega)] at a2
      refine bits_Y (n := 3) hC0 a2 (by omega) (fun M3 t1 t2 => ?_)
      by_cases hin : p + 3 * (i : Int) + 3 ≤ M0 129 2
      · rw [bS_pos hin] at t1
        rw [bS_pos hin]
        refine ⟨by omega, ?_⟩
        have s165 := t2.1 165 (by decide)
        refine ih (i + 1) _ g (by omega) ?_ (fun t t0 t9 => ?_) ?_ ?_
        · have es : p + 3 * (if ((i + 1 : Nat) : Int) < c then ((i + 1 : Nat) : Int) else c) = p + 3 * (i : Int) + (3 : Nat) := by
            split <;> omega
          rw [es]
          exact uR_up t1 (fun c hc => by rw [um_ne (by omega)]) (fun c _ hc => by rw [um_ne hc])
        · rw [um_at, e2, s165]
          show _ = ur (tlU (M0 sc) p c g i) (tel i) (if (i : Int) < c then bv (M0 sc) (p + 3 * i) 3 else 0) t
          rw [if_pos (by omega)]
          by_cases q : t = tel i
          · rw [q, ur_at, ur_at]
          · rw [ur_ne q, ur_ne q]
            exact a3 t t0 t9
        · rw [um_ne (by decide), t2.2 15 (by omega) (by omega)]
          exact a4
        · rw [um_ne (by decide), t2.2 16 (by omega) (by omega)]
          exact a5
      · rw [bS_neg hin] at t1
        rw [bS_neg hin]
        refine ⟨by omega, ?_⟩
        refine te34X hC0 hTel hm1 (fun M4 h4 => k0 M4 (by omega) h4) (by omega) N (i + 1) _ (by omega) ?_
        exact uR_up t1 (fun c hc => by rw [um_ne (by omega)]) (fun c _ hc => by rw [um_ne hc])
end UTELL
