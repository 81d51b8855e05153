/-! MOUNTING: where the parts lie; the class -/
/-- a piece's end, not beyond m -/
def pE (f : Int → Int) (p m : Int) : Int := if p + 2 ≤ m ∧ 1 ≤ le f p 2 % 32768 ∧ le f p 2 % 32768 ≤ 8192 ∧ p + 2 + le f p 2 % 32768 ≤ m then p + 2 + le f p 2 % 32768 else -1
def pcG (f : Int → Int) (m : Int) : Nat → Int → Prop
  | 0, _ => False
  | g + 1, p => p = m ∨ (0 ≤ p ∧ p < m ∧ pcG f m g (pE f p m))
/-- pieces fill a to m -/
def pcs (f : Int → Int) (a m : Int) : Prop := pcG f m (m.toNat + 1) a
def tbG (f : Int → Int) (t : Int) : Nat → Int → Int → Prop
  | 0, _, p => p = t
  | g + 1, k, p => s64 (le f (t + 8 * k) 8) = p ∧ 0 ≤ pE f p t ∧ tbG f t g (k + 1) (pE f p t)
def tbP (f : Int → Int) (u t : Int) (n : Nat) (a : Int) : Prop := 0 ≤ t ∧ t ≤ u - 8 * n ∧ tbG f t n 0 a
theorem tbG_lt {f : Int → Int} {t k p : Int} {g : Nat} (h : tbG f t (g + 1) k p) : p + 3 ≤ t := by
  have h2 := h.2.1
  unfold pE at h2
  split at h2
  · omega
  · omega
def ctP (f : Int → Int) (u q : Int) (n : Nat) (a z : Int) : Prop := (a ≤ s64 (le f q 8) ∧ s64 (le f q 8) ≤ u - 8 * n) ∧ (a ≤ s64 (le f (s64 (le f q 8)) 8) ∧ s64 (le f (s64 (le f q 8)) 8) ≤ s64 (le f q 8)) ∧ (s64 (le f (s64 (le f q 8)) 8) = a ∨ z ≠ 0) ∧ tbG f (s64 (le f q 8)) n 0 (s64 (le f (s64 (le f q 8)) 8))
theorem ct_first {f : Int → Int} {u q a : Int} {n : Nat} (ha : 0 ≤ a) (hn : 1 ≤ n) : ctP f u q n a 1 ↔ a ≤ s64 (le f (s64 (le f q 8)) 8) ∧ tbP f u (s64 (le f q 8)) n (s64 (le f (s64 (le f q 8)) 8)) := by
  obtain ⟨m, rfl⟩ : ∃ m, n = m + 1 := ⟨n - 1, by omega⟩
  constructor
  · intro h
    exact ⟨h.2.1.1, by have := h.1.1; omega, h.1.2, h.2.2.2⟩
  · intro h
    have z := tbG_lt h.2.2.2
    exact ⟨⟨by omega, h.2.2.1⟩, ⟨h.1, by omega⟩, Or.inr (by omega), h.2.2.2⟩
theorem ct_next {f : Int → Int} {u q a : Int} {n : Nat} (ha : 0 ≤ a) (hn : 1 ≤ n) : ctP f u q n a 0 ↔ tbP f u (s64 (le f q 8)) n a := by
  obtain ⟨m, rfl⟩ : ∃ m, n = m + 1 := ⟨n - 1, by omega⟩
  constructor
  · intro h
    have e : s64 (le f (s64 (le f q 8)) 8) = a := by
      rcases h.2.2.1 with z | z
      · exact z
      · exact absurd rfl z
    have t := h.2.2.2
    rw [e] at t
    exact ⟨by have := h.1.1; omega, h.1.2, t⟩
  · intro h
    have z := tbG_lt h.2.2
    have e : s64 (le f (s64 (le f q 8)) 8) = a := by
      have y := h.2.2.1
      rw [show s64 (le f q 8) + 8 * 0 = s64 (le f q 8) by omega] at y
      exact y
    unfold ctP
    rw [e]
    exact ⟨⟨by omega, h.2.1⟩, ⟨by omega, by omega⟩, Or.inl rfl, h.2.2⟩
def cpE (f : Int → Int) (s p : Int) : Int := if 1 ≤ r2 f s p % 32768 ∧ r2 f s p % 32768 ≤ 8192 then p + 2 + r2 f s p % 32768 else -1
theorem cpE_pE {f : Int → Int} {s p m : Int} (hp : 0 ≤ p) (hm : m ≤ s) : (cpE f s p ≤ m → pE f p m = cpE f s p) ∧ (m < cpE f s p → pE f p m = -1) := by
  unfold cpE pE
  by_cases c : p + 2 ≤ s
  · have e : r2 f s p = le f p 2 := if_pos ⟨hp, c⟩
    rw [e]
    constructor
    · intro h
      by_cases c2 : 1 ≤ le f p 2 % 32768 ∧ le f p 2 % 32768 ≤ 8192
      · rw [if_pos c2] at h ⊢
        rw [if_pos (by omega)]
      · rw [if_neg c2, if_neg (by omega)]
    · intro h
      by_cases c2 : 1 ≤ le f p 2 % 32768 ∧ le f p 2 % 32768 ≤ 8192
      · rw [if_pos c2] at h
        rw [if_neg (by omega)]
      · rw [if_neg (by omega)]
  · have e : r2 f s p = 0 := if_neg (by omega)
    rw [e, if_neg (by omega), if_neg (by omega)]
    exact ⟨fun _ => rfl, fun _ => rfl⟩
section PLACES
variable {d nx zl : Nat} {K : Option TV → FH → Prop} {sh : Nat → Option Shp} {M : FM}
theorem pieceEnd_Y {p : Int} (hs : 0 ≤ M 98 1 ∧ M 98 1 ≤ 131072) (hp : -200000 ≤ p ∧ p ≤ 200000) (k : K (some (ti (cpE (M 99) (M 98 1) p))) (sh, M, nx, zl)) : fm_Y (d + 2) 133 [.ref 97, .int (Int32.ofInt p)] (sh, M, nx, zl) K := by
  refine m133 [fx 97, ti p] ?_
  refine two_Y (rowS_98 sh) (by omega) hs.1 hs.2 ?_
  unfold cpE at k
  refine ⟨by omega, fun w => ?_, fun w => ?_⟩
  · rw [if_neg (by omega)] at k
    exact k
  · refine ⟨by omega, fun w2 => ?_, fun w2 => ?_⟩
    · rw [if_pos (by omega)] at k
      exact k
    · rw [if_neg (by omega)] at k
      exact k
theorem cpE_rng (f : Int → Int) (s : Int) {p : Int} (h : 0 ≤ p) : -1 ≤ cpE f s p ∧ cpE f s p ≤ p + 8194 ∧ (cpE f s p = -1 ∨ p + 3 ≤ cpE f s p) := by
  unfold cpE
  split <;> omega
theorem piecesFill_Y {a m : Int} (hs : 0 ≤ M 98 1 ∧ M 98 1 ≤ 131072) (ha : 0 ≤ a ∧ a ≤ m) (hm : m ≤ M 98 1) (k : ∀ z : Int, (z = 1 ∧ pcs (M 99) a m ∨ z = 0 ∧ ¬ pcs (M 99) a m) → K (some (ti z)) (sh, M, nx, zl)) : fm_Y (d + 3) 134 [.ref 97, .int (Int32.ofInt a), .int (Int32.ofInt m)] (sh, M, nx, zl) K := by
  refine m134 [fx 97, ti a, ti m] ?_
  have L : ∀ (g : Nat) (p q : Int), m - p < g → 0 ≤ q → q ≤ p - a → (pcs (M 99) a m ↔ pcG (M 99) m g p) → 0 ≤ p → p ≤ m → fm_X (d + 2) kd134 5 [some (fx 97), some (ti a), some (ti m), some (ti p), some (ti q)] [] (sh, M, nx, zl) K := by
    intro g
    induction g with
    | zero => intro p q b1 b2 b3 b4 b5 b6; omega
    | succ g ih =>
      intro p q b1 b2 b3 b4 b5 b6
      have e : pcG (M 99) m (g + 1) p ↔ (p = m ∨ (0 ≤ p ∧ p < m ∧ pcG (M 99) m g (pE (M 99) p m))) := Iff.rfl
      refine s134_5 (d + 2) K _ _ _ ?_
      have DONE : p = m → b134_33 (d + 2) (fW (d + 2) kd134 K) K [some (fx 97), some (ti a), some (ti m), some (ti p), some (ti q)] [] (sh, M, nx, zl) := by
        intro h
        refine ⟨by omega, fun w => absurd h w, fun _ => ⟨Or.inr rfl, k 1 (Or.inl ⟨rfl, b4.2 (e.2 (Or.inl h))⟩)⟩⟩
      refine ⟨by omega, fun w => DONE (by omega), fun w => ?_⟩
      refine ⟨by omega, fun w2 => by omega, fun w2 => ?_⟩
      refine ⟨by omega, fun w3 => DONE (by omega), fun w3 => ?_⟩
      refine pieceEnd_Y hs (by omega) ?_
      have cr := cpE_rng (M 99) (M 98 1) b5
      obtain ⟨c1, c2⟩ := cpE_pE (f := M 99) (p := p) b5 hm
      have b4' : pcs (M 99) a m ↔ pcG (M 99) m g (pE (M 99) p m) := b4.trans (e.trans ⟨fun h => h.elim (fun z => by omega) (fun z => z.2.2), fun h => Or.inr ⟨b5, by omega, h⟩⟩)
      have NOG : ∀ g2 : Nat, ¬ pcG (M 99) m g2 (-1) := by
        intro g2 h
        cases g2 with
        | zero => exact h
        | succ g2 =>
          rcases h with h | h
          · omega
          · omega
      -- over
      have OUT : ∀ x : Int, (x < 0 ∨ m < x) → (-10 ≤ x ∧ x ≤ 200000) → ¬ pcs (M 99) a m → fm_X (d + 2) kd134 5 [some (fx 97), some (ti a), some (ti m), some (ti x), some (ti (q + 1))] [] (sh, M, nx, zl) K := by
        intro x hx hx2 hno
        have D2 : b134_33 (d + 2) (fW (d + 2) kd134 K) K [some (fx 97), some (ti a), some (ti m), some (ti x), some (ti (q + 1))] [] (sh, M, nx, zl) := by
          refine ⟨by omega, fun w => ⟨Or.inl rfl, k 0 (Or.inr ⟨rfl, hno⟩)⟩, fun w => by omega⟩
        refine s134_5 (d + 2) K _ _ _ ?_
        refine ⟨by omega, fun w => D2, fun w => ?_⟩
        refine ⟨by omega, fun w2 => D2, fun w2 => ?_⟩
        exact ⟨by omega, fun w3 => D2, fun w3 => by omega⟩
      by_cases c3 : cpE (M 99) (M 98 1) p ≤ m
      · rw [c1 c3] at b4'
        by_cases c4 : cpE (M 99) (M 98 1) p = -1
        · rw [c4] at b4' ⊢
          exact OUT (-1) (by omega) (by omega) (fun h => NOG g (b4'.1 h))
        · exact ih _ (q + 1) (by omega) (by omega) (by omega) b4' (by omega) c3
      · rw [c2 (by omega)] at b4'
        exact OUT _ (by omega) (by omega) (fun h => NOG g (b4'.1 h))
  exact L (m.toNat + 1) a 0 (by omega) (by omega) (by omega) Iff.rfl ha.1 ha.2
theorem tableEnd_Y {q by0 a z : Int} {n : Nat} (hs : 96 ≤ M 98 1 ∧ M 98 1 ≤ 131072) (hu : 0 ≤ M 97 14 ∧ M 97 14 ≤ M 98 1) (hq : 0 ≤ q ∧ q ≤ 88) (hb : 1 ≤ by0 ∧ by0 ≤ 65536) (hn : (n : Int) = (by0 + 8191) / 8192) (ha : 0 ≤ a ∧ a ≤ 200000) (hz : z = 0 ∨ z = 1)
    (k : ∀ r : Int, (ctP (M 99) (M 97 14) q n a z ∧ r = s64 (le (M 99) q 8) + 8 * n ∨ ¬ ctP (M 99) (M 97 14) q n a z ∧ r = -1) → K (some (ti r)) (sh, M, nx, zl)) : fm_Y (d + 3) 132 [.ref 97, .int (Int32.ofInt q), .int (Int32.ofInt by0), .int (Int32.ofInt a), .int (Int32.ofInt z)] (sh, M, nx, zl) K := by
  refine m132 [fx 97, ti q, ti by0, ti a, ti z] ?_
  refine ⟨by omega, ?_⟩
  have hn1 : 1 ≤ n ∧ n ≤ 9 := by omega
  refine i8_Y hs hq (fun t8 => ?_)
  obtain ⟨t, gt⟩ : ∃ t : Int, t = s64 (le (M 99) q 8) := ⟨_, rfl⟩
  rw [← gt] at t8 ⊢
  have NO : ¬ ctP (M 99) (M 97 14) q n a z → K (some (ti (-1))) (sh, M, nx, zl) := fun h => k (-1) (Or.inr ⟨h, rfl⟩)
  have en : by0 + 8192 - 1 = by0 + 8191 := by omega
  have CT : ctP (M 99) (M 97 14) q n a z ↔ (a ≤ t ∧ t ≤ M 97 14 - 8 * n) ∧ (a ≤ s64 (le (M 99) t 8) ∧ s64 (le (M 99) t 8) ≤ t) ∧ (s64 (le (M 99) t 8) = a ∨ z ≠ 0) ∧ tbG (M 99) t n 0 (s64 (le (M 99) t 8)) := by
    unfold ctP
    rw [← gt]
  refine ⟨by omega, ?_⟩
  refine ⟨by omega, fun w1 => NO (fun h => by have := (CT.1 h).1.1; omega), fun w1 => ?_⟩
  refine ⟨by omega, ?_⟩
  refine ⟨by omega, fun w2 => ?_, fun w2 => NO (fun h => by have := (CT.1 h).1.2; omega)⟩
  have e8 : r8 (M 99) (M 98 1) t = s64 (le (M 99) t 8) := if_pos (by omega)
  refine eight_Y (rowS_98 sh) (by omega) (by omega) hs.2 ?_
  rw [e8]
  have b8 := s64_r (le (M 99) t 8)
  obtain ⟨b, gb⟩ : ∃ b : Int, b = s64 (le (M 99) t 8) := ⟨_, rfl⟩
  rw [← gb] at b8 CT ⊢
  refine ⟨by omega, ?_⟩
  refine ⟨by omega, fun w3 => NO (fun h => by have := (CT.1 h).2.1.1; omega), fun w3 => ?_⟩
  refine ⟨by omega, ?_⟩
  refine ⟨by omega, fun w4 => NO (fun h => by have := (CT.1 h).2.1.2; omega), fun w4 => ?_⟩
  refine ⟨by omega, ?_⟩
  have ep : (by0 + 8192 - 1) / 8192 = (n : Int) := by rw [en, hn]
  -- the loop over pieces
  have GO : (b = a ∨ z ≠ 0) → b132_98 (d + 2) (fW (d + 2) kd132 K) K [some (fx 97), some (ti q), some (ti by0), some (ti a), some (ti z), some (ti ((by0 + 8192 - 1) / 8192)), some (tj t), none, some (ti t), some (tj b), none, none, none] [] (sh, M, nx, zl) := by
    intro hfirst
    rw [ep]
    have CT2 : ctP (M 99) (M 97 14) q n a z ↔ tbG (M 99) t n 0 b := CT.trans ⟨fun h => h.2.2.2, fun h => ⟨⟨by omega, by omega⟩, ⟨by omega, by omega⟩, hfirst, h⟩⟩
    have DEAD : ∀ (x j : Int), (x = -1 ∨ t < x) → (-1 ≤ x ∧ x ≤ 200000) → (0 ≤ j ∧ j ≤ 100) → ¬ ctP (M 99) (M 97 14) q n a z → fm_X (d + 2) kd132 106 [some (fx 97), some (ti q), some (ti by0), some (ti a), some (ti z), some (ti n), some (tj t), none, some (ti t), some (tj b), none, some (ti x), some (ti j)] [] (sh, M, nx, zl) K := by
      intro x j hx hx2 hj hno
      refine s132_106 (d + 2) K _ _ _ ?_
      refine ⟨by omega, fun w => ?_, fun w => ?_⟩
      · exact ⟨by omega, fun w5 => NO hno, fun w5 => by omega⟩
      · refine ⟨by omega, fun w5 => NO hno, fun w5 => ?_⟩
        exact ⟨by omega, fun w6 => NO hno, fun w6 => by omega⟩
    have L : ∀ (g : Nat) (j p : Int), j + g = n → 0 ≤ j → 0 ≤ p → p ≤ t → (ctP (M 99) (M 97 14) q n a z ↔ tbG (M 99) t g j p) → fm_X (d + 2) kd132 106 [some (fx 97), some (ti q), some (ti by0), some (ti a), some (ti z), some (ti n), some (tj t), none, some (ti t), some (tj b), none, some (ti p), some (ti j)] [] (sh, M, nx, zl) K := by
      intro g
      induction g with
      | zero =>
        intro j p c1 c2 c3 c4 c5
        refine s132_106 (d + 2) K _ _ _ ?_
        refine ⟨by omega, fun w => ?_, fun w => by omega⟩
        have e0 : tbG (M 99) t 0 j p ↔ p = t := Iff.rfl
        refine ⟨by omega, fun w5 => NO (fun h => w5 (e0.1 (c5.1 h))), fun w5 => ?_⟩
        have zz := k (t + 8 * n) (Or.inl ⟨c5.2 (e0.2 w5), by rw [gt]⟩)
        exact zz
      | succ g ih =>
        intro j p c1 c2 c3 c4 c5
        have e1 : tbG (M 99) t (g + 1) j p ↔ (s64 (le (M 99) (t + 8 * j) 8) = p ∧ 0 ≤ pE (M 99) p t ∧ tbG (M 99) t g (j + 1) (pE (M 99) p t)) := Iff.rfl
        refine s132_106 (d + 2) K _ _ _ ?_
        refine ⟨by omega, fun w => by omega, fun w => ?_⟩
        refine ⟨by omega, fun w5 => by omega, fun w5 => ?_⟩
        refine ⟨by omega, fun w6 => by omega, fun w6 => ?_⟩
        refine eight_Y (rowS_98 sh) (by omega) (by omega) hs.2 ?_
        have e9 : r8 (M 99) (M 98 1) (t + 8 * j) = s64 (le (M 99) (t + 8 * j) 8) := if_pos (by omega)
        rw [e9]
        have b9 := s64_r (le (M 99) (t + 8 * j) 8)
        refine ⟨by omega, ?_⟩
        refine ⟨by omega, fun w7 => ?_, fun w7 => NO (fun h => w7 (e1.1 (c5.1 h)).1)⟩
        refine pieceEnd_Y (by omega) (by omega) ?_
        have cr := cpE_rng (M 99) (M 98 1) c3
        obtain ⟨d1, d2⟩ := cpE_pE (f := M 99) (s := M 98 1) (p := p) (m := t) c3 (by omega)
        by_cases c6 : cpE (M 99) (M 98 1) p ≤ t
        · have d3 := d1 c6
          by_cases c7 : cpE (M 99) (M 98 1) p = -1
          · refine DEAD _ (j + 1) (Or.inl c7) (by omega) (by omega) (fun h => ?_)
            have := (e1.1 (c5.1 h)).2.1
            omega
          · refine ih (j + 1) _ (by omega) (by omega) (by omega) c6 (c5.trans (e1.trans ?_))
            rw [d3]
            exact ⟨fun h => h.2.2, fun h => ⟨w7, by omega, h⟩⟩
        · refine DEAD _ (j + 1) (Or.inr (by omega)) (by omega) (by omega) (fun h => ?_)
          have := (e1.1 (c5.1 h)).2.1
          have := d2 (by omega)
          omega
    have zz := L n 0 b (by omega) (by omega) (by omega) (by omega) CT2
    exact zz
  refine ⟨by omega, fun w5 => GO (Or.inl w5), fun w5 => ?_⟩
  refine ⟨by omega, fun w6 => GO (Or.inr w6), fun w6 => NO (fun h => ?_)⟩
  rcases (CT.1 h).2.2.1 with y | y
  · exact w5 y
  · exact y (by omega)
end PLACES
