/-! UNPACKING, the class: a byte, a copy; what lengths and distances mean -/
def lnM (s : Int) : Nat := if s < 265 ∨ 284 < s then 0 else ((s - 261) / 4).toNat
def lnB (s : Int) : Int := if s < 265 then s - 254 else if 284 < s then 258 else 3 + (4 + (s - 261) % 4) * 2 ^ ((s - 261) / 4).toNat
def dsM (t : Int) : Nat := if t < 4 ∨ 29 < t then 0 else (t / 2 - 1).toNat
def dsB (t : Int) : Int := if t < 4 ∨ 29 < t then t + 1 else 1 + (2 + t % 2) * 2 ^ (t / 2 - 1).toNat
theorem lnM_le (s : Int) : lnM s ≤ 5 := by
  unfold lnM
  split <;> omega
theorem dsM_le (t : Int) : dsM t ≤ 13 := by
  unfold dsM
  split <;> omega
theorem mul_le4 {x y a b : Int} (h1 : 0 ≤ x) (h2 : x ≤ a) (h3 : 0 ≤ y) (h4 : y ≤ b) : 0 ≤ x * y ∧ x * y ≤ a * b := ⟨Int.mul_nonneg h1 h3, Int.mul_le_mul h2 h4 h3 (by omega)⟩
theorem lnB_rng {s : Int} (h0 : 257 ≤ s) (h1 : s ≤ 300) : 3 ≤ lnB s ∧ lnB s ≤ 300 := by
  unfold lnB
  split
  · omega
  · split
    · omega
    · have h := p2_mono ((s - 261) / 4).toNat 5 (by omega)
      have h2 := two_pos ((s - 261) / 4).toNat
      have h3 := mul_le4 (x := 4 + (s - 261) % 4) (y := 2 ^ ((s - 261) / 4).toNat) (a := 7) (b := 2 ^ 5) (by omega) (by omega) (by omega) h
      have h4 : (7 : Int) * 2 ^ 5 = 224 := by decide
      omega
theorem dsB_rng {t : Int} (h0 : 0 ≤ t) (h1 : t ≤ 300) : 1 ≤ dsB t ∧ dsB t ≤ 30000 := by
  unfold dsB
  split
  · omega
  · have h := p2_mono (t / 2 - 1).toNat 13 (by omega)
    have h2 := two_pos (t / 2 - 1).toNat
    have h3 := mul_le4 (x := 2 + t % 2) (y := 2 ^ (t / 2 - 1).toNat) (a := 3) (b := 2 ^ 13) (by omega) (by omega) (by omega) h
    have h4 : (3 : Int) * 2 ^ 13 = 24576 := by decide
    omega
theorem syG_rng {f : Int → Int} {E : Int} {ls : Int → Int} {n : Nat} {s p1 : Int} : ∀ (g l : Nat) (v fi p : Int), fi ≤ 2 * v → syG f E ls n g l v fi p = some (s, p1) → (0 ≤ s ∧ s < n) ∧ p < p1 ∧ p1 ≤ E
  | 0, l, v, fi, p, _, h => by cases h
  | g + 1, l, v, fi, p, hv, h => by
    have h2 : (if p < E then (if 2 * v + bt f p - fi < cnt ls n (l + 1 : Nat) then some (nth ls (l + 1 : Nat) (2 * v + bt f p - fi) n, p + 1) else syG f E ls n g (l + 1) (2 * v + bt f p) (2 * (fi + cnt ls n (l + 1 : Nat))) (p + 1)) else none) = some (s, p1) := h
    have hb := bt_rng f p
    by_cases e : p < E
    · rw [if_pos e] at h2
      by_cases e2 : 2 * v + bt f p - fi < cnt ls n (l + 1 : Nat)
      · rw [if_pos e2] at h2
        injection h2 with h3
        injection h3 with h4 h5
        have h6 := nth_rng ls (l + 1 : Nat) (2 * v + bt f p - fi) n (by omega) e2
        rw [h4] at h6
        omega
      · rw [if_neg e2] at h2
        have q := syG_rng g (l + 1) _ _ (p + 1) (by omega) h2
        omega
    · rw [if_neg e] at h2
      cases h2
theorem sy_rng {f : Int → Int} {E : Int} {ls : Int → Int} {n : Nat} {s p p1 : Int} (h : sy f E ls n p = some (s, p1)) : (0 ≤ s ∧ s < n) ∧ p < p1 ∧ p1 ≤ E := syG_rng 15 0 0 0 p (by omega) h
def uk3 (M M2 : FM) (mc : Nat) : Prop := (∀ c : Nat, c ≠ 129 → c ≠ mc → M2 c = M c) ∧ ∀ i : Int, i ≠ 1 → i ≠ 5 → i ≠ 8 → M2 129 i = M 129 i
theorem uk3_r (M : FM) (mc : Nat) : uk3 M M mc := ⟨fun _ _ _ => rfl, fun _ _ _ _ => rfl⟩
theorem uk3_t {M M2 M3 : FM} {mc : Nat} (h : uk3 M M2 mc) (g : uk3 M2 M3 mc) : uk3 M M3 mc := ⟨fun c h1 h2 => (g.1 c h1 h2).trans (h.1 c h1 h2), fun i a b c => (g.2 i a b c).trans (h.2 i a b c)⟩
theorem uk2_3 {M M2 : FM} {mc : Nat} (h : uk2 M M2) : uk3 M M2 mc := ⟨fun c h1 _ => h.1 c h1, fun i a _ c => h.2 i a c⟩
def pS (mo b : Int) : St → St
  | some (p, o) => if (o.length : Int) < mo then some (p, o ++ [b % 256]) else none
  | none => none
def cpB (o : List Int) (far : Nat) : Nat → List Int
  | 0 => o
  | n + 1 => cpB (o ++ [(o[o.length - far]?).getD 0]) far n
theorem cpB_len (far : Nat) : ∀ (n : Nat) (o : List Int), (cpB o far n).length = o.length + n
  | 0, o => rfl
  | n + 1, o => by
    show (cpB (o ++ [(o[o.length - far]?).getD 0]) far n).length = _
    rw [cpB_len far n, List.length_append]
    simp only [List.length_cons, List.length_nil]
    omega
def cS (W mo n far : Int) : St → St
  | some (p, o) => if far ≤ o.length ∧ far ≤ W ∧ o.length + n ≤ mo then some (p, cpB o far.toNat n.toNat) else none
  | none => none
section UPUT
variable {d nx zl : Nat} {K : Option TV → FH → Prop} {sh : Nat → Option Shp} {M0 M : FM} {sc mc nS nM : Nat} {st : St}
theorem uX_fail3 {K2 : FM → Prop} (hmc : mc ≠ 129) (hK : uK M0 M mc) (k : ∀ M2 : FM, uR M0 M2 mc none → uk3 M M2 mc → K2 M2) : K2 (um M 129 (ur (M 129) 8 1)) := uX_fail hmc hK (fun M2 h g => k M2 h (uk2_3 g))
theorem um_sl {M : FM} {mc : Nat} {b x : Int} {o : List Int} (h : sl (M mc) b o.length = o) : sl (ur (M mc) (b + o.length) x) b (o.length + 1) = o ++ [x % 256] := by
  rw [sl_back, sl_ur (by omega), h, ur_at]
/-- a byte more in the state -/
theorem uR_put {p x : Int} {o : List Int} (hC : uC sh M0 sc mc nS nM) (hR : uR M0 M mc (some (p, o))) (hlt : (o.length : Int) < M0 129 6 - M0 129 4) {R : FM} (h1 : R mc = ur (M mc) (M 129 5) x) (h2 : R 129 = ur (M 129) 5 (M 129 5 + 1)) (h3 : ∀ c : Nat, c ≠ 129 → c ≠ mc → R c = M c) : uR M0 R mc (some (p, o ++ [x % 256])) ∧ uk3 M R mc := by
  obtain ⟨⟨⟨u1, u2⟩, u3, u4⟩, ⟨u5, u6, u7, u8⟩, ⟨u9, u10⟩, ⟨u11, u12⟩, u13, u14⟩ := hC
  obtain ⟨⟨k1, k2, k3⟩, ⟨r1, r2, r3, r4⟩, r5, r7⟩ := hR
  have hl : (o ++ [x % 256]).length = o.length + 1 := by simp
  refine ⟨⟨⟨fun i a b c e g => ?_, fun j hj => ?_, fun c a b e g => ?_⟩, ⟨?_, ?_, ?_, ?_⟩, r5, ?_⟩, fun c a b => h3 c a b, fun i a b c => by rw [h2, ur_ne b]⟩
  · rw [h2, ur_ne b]
    exact k1 i a b c e g
  · rw [h1, ur_ne (by omega)]
    exact k2 j hj
  · rw [h3 c a b]
    exact k3 c a b e g
  · rw [h2, ur_ne (by omega)]
    exact r1
  · rw [h2, ur_ne (by omega)]
    exact r2
  · rw [h2, ur_at, hl]
    omega
  · rw [h1, hl, r3]
    exact um_sl r4
  · rw [hl]
    omega
theorem putByte_Y {b : Int} (hC : uC sh M0 sc mc nS nM) (hR : uR M0 M mc st) (k : ∀ M2 : FM, uR M0 M2 mc (pS (M0 129 6 - M0 129 4) b st) → uk3 M M2 mc → K none (sh, M2, nx, zl)) : fm_Y (d + 1) 144 [.ref 129, .int (Int32.ofInt b)] (sh, M, nx, zl) K := by
  have hC0 := hC
  obtain ⟨⟨⟨u1, u2⟩, u3, u4⟩, ⟨u5, u6, u7, u8⟩, ⟨u9, u10⟩, ⟨u11, u12⟩, u13, u14⟩ := hC
  have hmc : mc ≠ 129 := by omega
  have hK := uR_K hR
  refine m144 [fx 129, ti b] ?_
  cases st with
  | none =>
    have hf : M 129 8 % 2 = 1 := hR.2
    refine ⟨by omega, fun w => ?_, fun w => by omega⟩
    refine ⟨Or.inr rfl, ?_⟩
    exact uX_fail3 (K2 := fun M2 => K none (sh, M2, nx, zl)) hmc hK (fun M2 h g => k M2 h g)
  | some q =>
    obtain ⟨p, o⟩ := q
    have hR0 := hR
    obtain ⟨-, ⟨r1, r2, r3, r4⟩, ⟨r5, r6⟩, r7⟩ := hR
    have e6 : M 129 6 = M0 129 6 := hK.1 6 (by omega) (by omega) (by omega) (by omega) (by omega)
    have e3 : M 129 3 = M0 129 3 := hK.1 3 (by omega) (by omega) (by omega) (by omega) (by omega)
    refine ⟨by omega, fun w => by omega, fun w => ?_⟩
    refine ⟨by omega, fun w2 => ?_, fun w2 => ?_⟩
    · have hlt : (o.length : Int) < M0 129 6 - M0 129 4 := by omega
      refine ⟨fun m e => ?_, fun w4 => by omega⟩
      have em : m = mc := by omega
      subst em
      refine ⟨nM, u4, by omega, ?_⟩
      obtain ⟨R, gR⟩ : ∃ R : FM, R = um (um M m (ur (M m) (M 129 5) ((b + 128) % 256 - 128))) 129 (ur (um M m (ur (M m) (M 129 5) ((b + 128) % 256 - 128)) 129) 5 (um M m (ur (M m) (M 129 5) ((b + 128) % 256 - 128)) 129 5 + 1)) := ⟨_, rfl⟩
      obtain ⟨q1, q2⟩ := uR_put (R := R) (x := (b + 128) % 256 - 128) hC0 hR0 hlt (by rw [gR, um_ne hmc, um_at]) (by rw [gR, um_at, um_ne (fun e => hmc e.symm)]) (fun c a b => by rw [gR, um_ne a, um_ne b])
      have es : pS (M0 129 6 - M0 129 4) b (some (p, o)) = some (p, o ++ [((b + 128) % 256 - 128) % 256]) := by
        rw [show ((b + 128) % 256 - 128) % 256 = b % 256 by omega]
        exact if_pos hlt
      rw [es] at k
      have z := k R q1 q2
      rw [gR] at z
      exact z
    · have es : pS (M0 129 6 - M0 129 4) b (some (p, o)) = none := if_neg (by omega)
      rw [es] at k
      refine ⟨Or.inr rfl, ?_⟩
      exact uX_fail3 (K2 := fun M2 => K none (sh, M2, nx, zl)) hmc hK (fun M2 h g => k M2 h g)
theorem copyBack_Y {n far : Int} (hC : uC sh M0 sc mc nS nM) (hR : uR M0 M mc st) (hn : 0 ≤ n ∧ n ≤ 1000) (hf0 : 1 ≤ far ∧ far ≤ 100000) (k : ∀ M2 : FM, uR M0 M2 mc (cS (M0 129 7) (M0 129 6 - M0 129 4) n far st) → uk3 M M2 mc → K none (sh, M2, nx, zl)) : fm_Y (d + 1) 149 [.ref 129, .int (Int32.ofInt n), .int (Int32.ofInt far)] (sh, M, nx, zl) K := by
  have hC0 := hC
  obtain ⟨⟨⟨u1, u2⟩, u3, u4⟩, ⟨u5, u6, u7, u8⟩, ⟨u9, u10⟩, ⟨u11, u12⟩, u13, u14⟩ := hC
  have hmc : mc ≠ 129 := by omega
  have hK := uR_K hR
  refine m149 [fx 129, ti n, ti far] ?_
  cases st with
  | none =>
    have hf : M 129 8 % 2 = 1 := hR.2
    refine ⟨by omega, fun w => ?_, fun w => by omega⟩
    refine ⟨Or.inr rfl, ?_⟩
    exact uX_fail3 (K2 := fun M2 => K none (sh, M2, nx, zl)) hmc hK (fun M2 h g => k M2 h g)
  | some q =>
    obtain ⟨p, o⟩ := q
    have hR0 := hR
    obtain ⟨-, ⟨r1, r2, r3, r4⟩, ⟨r5, r6⟩, r7⟩ := hR
    have e4 : M 129 4 = M0 129 4 := hK.1 4 (by omega) (by omega) (by omega) (by omega) (by omega)
    have e6 : M 129 6 = M0 129 6 := hK.1 6 (by omega) (by omega) (by omega) (by omega) (by omega)
    have e7 : M 129 7 = M0 129 7 := hK.1 7 (by omega) (by omega) (by omega) (by omega) (by omega)
    have FAIL : ¬ (far ≤ o.length ∧ far ≤ M0 129 7 ∧ o.length + n ≤ M0 129 6 - M0 129 4) → K none (sh, um M 129 (ur (M 129) 8 1), nx, zl) := by
      intro hx
      have es : cS (M0 129 7) (M0 129 6 - M0 129 4) n far (some (p, o)) = none := if_neg hx
      rw [es] at k
      exact uX_fail3 (K2 := fun M2 => K none (sh, M2, nx, zl)) hmc hK (fun M2 h g => k M2 h g)
    refine ⟨by omega, fun w => by omega, fun w => ?_⟩
    refine ⟨by omega, fun w2 => ⟨Or.inr rfl, FAIL (by omega)⟩, fun w2 => ?_⟩
    refine ⟨by omega, fun w3 => ⟨Or.inr rfl, FAIL (by omega)⟩, fun w3 => ?_⟩
    refine ⟨by omega, fun w4 => ?_, fun w4 => ⟨Or.inr rfl, FAIL (by omega)⟩⟩
    have hin : far ≤ o.length ∧ far ≤ M0 129 7 ∧ o.length + n ≤ M0 129 6 - M0 129 4 := by omega
    have es : cS (M0 129 7) (M0 129 6 - M0 129 4) n far (some (p, o)) = some (p, cpB o far.toNat n.toNat) := if_pos hin
    rw [es] at k
    have L : ∀ (r : Nat) (i : Int) (o2 : List Int) (M2 : FM), i + r = n → 0 ≤ i → (o2.length : Int) = o.length + i → cpB o far.toNat n.toNat = cpB o2 far.toNat r → uR M0 M2 mc (some (p, o2)) → uk3 M M2 mc → fm_X d kd149 49 [some (fx 129), some (ti n), some (ti far), some (ti i)] [] (sh, M2, nx, zl) K := by
      intro r
      induction r with
      | zero =>
        intro i o2 M2 a1 a2 a3 a4 a5 a6
        refine s149_49 d K _ _ _ ?_
        refine ⟨by omega, fun w => ?_, fun w => by omega⟩
        have e : cpB o2 far.toNat 0 = o2 := rfl
        rw [e] at a4
        rw [a4] at k
        exact k M2 a5 a6
      | succ r ih =>
        intro i o2 M2 a1 a2 a3 a4 a5 a6
        have a50 := a5
        obtain ⟨hK2, ⟨t1, t2, t3, t4⟩, t5, t7⟩ := a5
        have f3 : M2 129 3 = mc := by rw [hK2.1 3 (by omega) (by omega) (by omega) (by omega) (by omega), u2]
        refine s149_49 d K _ _ _ ?_
        refine ⟨by omega, fun w => by omega, fun w => ?_⟩
        refine ⟨fun m e => ?_, fun w5 => by omega⟩
        have em : m = mc := by omega
        subst em
        refine ⟨fun m2 e => ?_, fun w5 => by omega⟩
        have em : m2 = m := by omega
        subst em
        refine ⟨nM, u4, by omega, ?_⟩
        refine ⟨nM, u4, by omega, ?_⟩
        obtain ⟨x, hx⟩ : ∃ x : Int, x = (M2 m2 (M2 129 5 - far) + 128) % 256 - 128 := ⟨_, rfl⟩
        obtain ⟨R, gR⟩ : ∃ R : FM, R = um (um M2 m2 (ur (M2 m2) (M2 129 5) x)) 129 (ur (um M2 m2 (ur (M2 m2) (M2 129 5) x) 129) 5 (um M2 m2 (ur (M2 m2) (M2 129 5) x) 129 5 + 1)) := ⟨_, rfl⟩
        obtain ⟨q1, q2⟩ := uR_put (R := R) (x := x) hC0 a50 (by omega) (by rw [gR, um_ne hmc, um_at]) (by rw [gR, um_at, um_ne (fun e => hmc e.symm)]) (fun c a b => by rw [gR, um_ne a, um_ne b])
        have ex : x % 256 = (o2[o2.length - far.toNat]?).getD 0 := by
          have z := sl_get (f := M2 m2) o2.length (M0 129 4) (o2.length - far.toNat) (by omega)
          rw [t4] at z
          rw [z, hx]
          show _ = M2 m2 (M0 129 4 + ((o2.length - far.toNat : Nat) : Int)) % 256
          rw [show M2 129 5 - far = M0 129 4 + ((o2.length - far.toNat : Nat) : Int) by omega]
          omega
        rw [ex] at q1
        have z := ih (i + 1) _ R (by omega) (by omega) (by simp only [List.length_append, List.length_cons, List.length_nil]; omega) a4 q1 (uk3_t a6 q2)
        rw [gR, hx] at z
        exact z
    exact L n.toNat 0 o M (by omega) (by omega) (by omega) rfl hR0 (uk3_r M mc)
end UPUT
