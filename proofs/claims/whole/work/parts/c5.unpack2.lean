/-! UNPACKING, the class: the call -/
section UNPACK2
variable {d nx zl : Nat} {K : Option TV → FH → Prop} {sh : Nat → Option Shp} {M : FM} {sc mc nS nM : Nat} {a n t mo : Int}
theorem uB_f (M : FM) (sc mc : Nat) (a n t mo W : Int) : (uB M sc mc a n t mo W 129 0 = sc ∧ uB M sc mc a n t mo W 129 1 = 8 * (a + 2) ∧ uB M sc mc a n t mo W 129 2 = 8 * (a + n) ∧ uB M sc mc a n t mo W 129 3 = mc) ∧ (uB M sc mc a n t mo W 129 4 = t ∧ uB M sc mc a n t mo W 129 5 = t ∧ uB M sc mc a n t mo W 129 6 = t + mo ∧ uB M sc mc a n t mo W 129 7 = W ∧ uB M sc mc a n t mo W 129 8 = 0) ∧ ∀ c : Nat, c ≠ 129 → uB M sc mc a n t mo W c = M c := by
  unfold uB
  refine ⟨⟨?_, ?_, ?_, ?_⟩, ⟨?_, ?_, ?_, ?_, ?_⟩, fun c hc => ?_⟩
  · rw [pf_ne _ _ _ (by omega), pf_ne _ _ _ (by omega), pf_ne _ _ _ (by omega), pf_ne _ _ _ (by omega), pf_ne _ _ _ (by omega), pf_ne _ _ _ (by omega), pf_ne _ _ _ (by omega), pf_ne _ _ _ (by omega), pf_at]
  · rw [pf_ne _ _ _ (by omega), pf_ne _ _ _ (by omega), pf_ne _ _ _ (by omega), pf_ne _ _ _ (by omega), pf_ne _ _ _ (by omega), pf_ne _ _ _ (by omega), pf_ne _ _ _ (by omega), pf_at]
  · rw [pf_ne _ _ _ (by omega), pf_ne _ _ _ (by omega), pf_ne _ _ _ (by omega), pf_ne _ _ _ (by omega), pf_ne _ _ _ (by omega), pf_ne _ _ _ (by omega), pf_at]
  · rw [pf_ne _ _ _ (by omega), pf_ne _ _ _ (by omega), pf_ne _ _ _ (by omega), pf_ne _ _ _ (by omega), pf_ne _ _ _ (by omega), pf_at]
  · rw [pf_ne _ _ _ (by omega), pf_ne _ _ _ (by omega), pf_ne _ _ _ (by omega), pf_ne _ _ _ (by omega), pf_at]
  · rw [pf_ne _ _ _ (by omega), pf_ne _ _ _ (by omega), pf_ne _ _ _ (by omega), pf_at]
  · rw [pf_ne _ _ _ (by omega), pf_ne _ _ _ (by omega), pf_at]
  · rw [pf_ne _ _ _ (by omega), pf_at]
  · rw [pf_at]
  · rw [pf_o _ _ _ hc, pf_o _ _ _ hc, pf_o _ _ _ hc, pf_o _ _ _ hc, pf_o _ _ _ hc, pf_o _ _ _ hc, pf_o _ _ _ hc, pf_o _ _ _ hc, pf_o _ _ _ hc]
theorem unF_r (M : FM) (mc : Nat) (t mo : Int) : unF M M mc t mo := ⟨fun _ _ _ _ _ => rfl, fun _ _ => rfl⟩
theorem unpack_Y (hs : shp sh sc = some (.inl (.byte, nS))) (hm : shp sh mc = some (.inl (.byte, nM))) (hne : sc ≠ mc ∧ (sc < 129 ∨ 165 < sc) ∧ (mc < 129 ∨ 165 < mc) ∧ 3 ≤ mc) (hN : nS ≤ 131072 ∧ nM ≤ 131072) (ha : 0 ≤ a ∧ a ≤ 200000) (hn : -200000 ≤ n ∧ n ≤ 200000) (han : a + n ≤ nS) (ht : 0 ≤ t) (hmo : 0 ≤ mo ∧ t + mo ≤ nM) (hTel : ∀ i : Int, 0 ≤ i → i < 19 → M 1 i = tel i) (hF1 : cdV M 157 152 fxA 288) (hF2 : cdV M 164 159 fxB 32)
    (k0 : unS (M sc) a n mo = none → ∀ M2 : FM, unF M M2 mc t mo → K (some (ti (-1))) (sh, M2, nx, zl))
    (k1 : ∀ o : List Int, unS (M sc) a n mo = some o → ∀ M2 : FM, unF M M2 mc t mo → sl (M2 mc) t o.length = o → K (some (ti o.length)) (sh, M2, nx, zl)) : fm_Y (d + 4) 139 [.ref 129, .ref sc, .int (Int32.ofInt a), .int (Int32.ofInt n), .ref mc, .int (Int32.ofInt t), .int (Int32.ofInt mo)] (sh, M, nx, zl) K := by
  obtain ⟨u5, u6, u7, u8⟩ := hne
  have hmc : mc ≠ 129 := by omega
  refine m139 [fx 129, gr sc, ti a, ti n, gr mc, ti t, ti mo] ?_
  have NO : ¬ (2 ≤ n ∧ (256 * (M sc a % 256) + M sc (a + 1) % 256) % 31 = 0 ∧ M sc a % 256 % 16 = 8 ∧ M sc a % 256 / 16 ≤ 7 ∧ M sc (a + 1) % 256 / 32 % 2 = 0) → K (some (ti (-1))) (sh, M, nx, zl) := by
    intro h
    refine k0 ?_ M (unF_r M mc t mo)
    unfold unS
    rw [if_neg h]
  refine ⟨by omega, fun w => NO (by omega), fun w => ?_⟩
  refine ⟨by omega, fun w2 => by omega, fun w2 => ?_⟩
  refine ⟨_, _, hs, ?_⟩
  refine ⟨by omega, fun w3 => by omega, fun w3 => ?_⟩
  refine ⟨by omega, fun w4 => by omega, fun w4 => ?_⟩
  refine ⟨_, _, hm, ?_⟩
  refine ⟨by omega, fun w5 => ?_, fun w5 => by omega⟩
  refine ⟨nS, hs, by omega, ?_⟩
  refine ⟨nS, hs, by omega, ?_⟩
  obtain ⟨x, hx⟩ : ∃ x : Int, x = M sc a % 256 := ⟨_, rfl⟩
  obtain ⟨y, hy⟩ : ∃ y : Int, y = M sc (a + 1) % 256 := ⟨_, rfl⟩
  rw [← hx, ← hy] at NO
  have rx : 0 ≤ x ∧ x < 256 := by omega
  have ry : 0 ≤ y ∧ y < 256 := by omega
  refine ⟨by omega, ?_⟩
  refine ⟨by omega, fun w6 => NO (fun z => by rw [← hx, ← hy] at w6; exact w6 z.2.1), fun w6 => ?_⟩
  refine ⟨by omega, fun w7 => NO (fun z => by rw [← hx] at w7; exact w7 z.2.2.1), fun w7 => ?_⟩
  refine ⟨by omega, ?_⟩
  refine ⟨by omega, fun w8 => NO (fun z => by rw [← hx] at w8; omega), fun w8 => ?_⟩
  rw [← hx, ← hy] at w6
  rw [← hx] at w7 w8
  refine ⟨y / 32 % 2 * 32, ?_, ?_⟩
  · rw [← hy]
    have z := and_32 y.toNat (by omega)
    rw [show ((y.toNat : Nat) : Int) = y by omega] at z
    exact z
  refine ⟨by omega, fun w9 => ?_, fun w9 => NO (fun z => by omega)⟩
  have c9 : 2 ≤ n ∧ (256 * (M sc a % 256) + M sc (a + 1) % 256) % 31 = 0 ∧ M sc a % 256 % 16 = 8 ∧ M sc a % 256 / 16 ≤ 7 ∧ M sc (a + 1) % 256 / 32 % 2 = 0 := by
    rw [← hx, ← hy]
    omega
  refine ⟨by omega, ?_⟩
  refine ⟨by omega, ?_⟩
  refine ⟨Or.inl rfl, ?_⟩
  obtain ⟨W, hWd⟩ : ∃ W : Int, W = 256 * 2 ^ (x / 16).toNat := ⟨_, rfl⟩
  have rW : 0 ≤ W ∧ W ≤ 32768 := by
    have z := p2_mono (x / 16).toNat 7 (by omega)
    have z2 := two_pos (x / 16).toNat
    have z3 : (2 : Int) ^ 7 = 128 := by decide
    omega
  obtain ⟨M0, g0⟩ : ∃ M0 : FM, M0 = uB M sc mc a n t mo W := ⟨_, rfl⟩
  obtain ⟨⟨f0, f1, f2, f3⟩, ⟨f4, f5, f6, f7, f8⟩, fo⟩ := uB_f M sc mc a n t mo W
  rw [← g0] at f0 f1 f2 f3 f4 f5 f6 f7 f8 fo
  have hC : uC sh M0 sc mc nS nM := ⟨⟨⟨f0, f3⟩, hs, hm⟩, ⟨u5, u6, u7, u8⟩, hN, by omega, by omega, by omega⟩
  have hU : unS (M sc) a n mo = (match blG (M sc) (8 * (a + n)) W mo ((8 * (a + n)).toNat + 1) ((8 * (a + n)).toNat + 1) (8 * (a + 2)) [] with
      | none => none
      | some (p, o) => if (p + 7) / 8 * 8 = 8 * (a + n) - 32 ∧ tld (M sc) ((p + 7) / 8) = adV o then some o else none) := by
    unfold unS
    rw [if_pos c9, hWd, hx]
    rfl
  have es : M0 sc = M sc := fo sc (by omega)
  have em : M0 mc = M mc := fo mc hmc
  have UF : ∀ M2 : FM, uK M0 M2 mc → unF M M2 mc t mo := by
    intro M2 ⟨q1, q2, q3⟩
    refine ⟨fun c c1 c2 c3 c4 => (q3 c c1 c2 c3 c4).trans (fo c c1), fun j hj => ?_⟩
    rw [q2 j (by omega), em]
  have m1 : mc ≠ 1 := by omega
  have TL : fm_X (d + 3) kd139 174 [some (fx 129), some (gr sc), some (ti a), some (ti n), some (gr mc), some (ti t), some (ti mo), some (ti (M sc a % 256)), some (ti (M sc (a + 1) % 256)), some (ti 0), some (ti 0), none] [] (sh, M0, nx, zl) K := by
    refine un174 (W := W) (p0 := 8 * (a + 2)) (o0 := []) (G0 := (8 * (a + n)).toNat + 1) hC f7 f2 f4 f6 (by omega) ha.1 (fun i i0 i1 => by rw [fo 1 (by decide)]; exact hTel i i0 i1) m1 (cdV_to hF1 (fo 157 (by decide)) (fo 152 (by decide))) (cdV_to hF2 (fo 164 (by decide)) (fo 159 (by decide))) ((8 * (a + n)).toNat + 1) (by omega) (fun h M2 hK => ?_) (fun p o h1 h2 M2 hK hsl => ?_) ((8 * (a + n)).toNat + 1) (8 * (a + 2)) 0 [] M0 none (by omega) (by omega) (by omega) rfl ?_
    · refine k0 ?_ M2 (UF M2 hK)
      rw [hU]
      rw [es] at h
      cases hb : blG (M sc) (8 * (a + n)) W mo ((8 * (a + n)).toNat + 1) ((8 * (a + n)).toNat + 1) (8 * (a + 2)) [] with
      | none => rfl
      | some q =>
        obtain ⟨p, o⟩ := q
        show (if (p + 7) / 8 * 8 = 8 * (a + n) - 32 ∧ tld (M sc) ((p + 7) / 8) = adV o then some o else none) = none
        rw [if_neg (h p o hb)]
    · rw [es] at h1 h2
      refine k1 o ?_ M2 (UF M2 hK) hsl
      rw [hU, h1]
      exact if_pos h2
    · refine ⟨⟨fun _ _ _ _ _ _ => rfl, fun _ _ => rfl, fun _ _ _ _ _ => rfl⟩, ⟨f1, by rw [f8]; rfl, ?_, rfl⟩, by omega, ?_⟩
      · rw [f5, f4]
        show t = t + ((0 : Nat) : Int)
        omega
      · rw [f4, f6]
        show t + ((0 : Nat) : Int) ≤ t + mo
        omega
  rw [g0, hWd, hx] at TL
  exact TL
end UNPACK2
