/-! UNPACKING, the reference: a tree grows -/
def udN (D : Int → Nat) (N : Int) (x : Nat) : Int → Nat := fun i => if i = N then x else D i
theorem udN_at (D : Int → Nat) (N : Int) (x : Nat) : udN D N x N = x := if_pos rfl
theorem udN_ne {D : Int → Nat} {N i : Int} {x : Nat} (h : i ≠ N) : udN D N x i = D i := if_neg h
def wkI (T A : Int → Int) (D : Int → Nat) (N U : Int) (d : Nat) (m : Int) : Prop := ((0 ≤ m ∧ m < N) ∧ D m = d ∧ A m = U / 2 ^ (15 - d) * 2 ^ (15 - d)) ∧ (∀ m2 : Int, 0 ≤ m2 → m2 < N → A m2 = U → D m2 ≤ d) ∧ ∀ m2 b2 : Int, 0 ≤ m2 → m2 < N → 0 ≤ b2 → b2 ≤ 1 → D m2 < d → T (2 * m2 + b2) = 0 → U < slt A D m2 b2
theorem cnt_one {f g : Int → Int} {i : Int} (k : Nat) (h0 : 0 ≤ i) (h1 : i < k) (h2 : f i ≠ 0) (h3 : g i = 0) (h4 : ∀ j : Nat, j < k ∧ (j : Int) ≠ i → g j = f j) : cnt g k 0 = cnt f k 0 + 1 := by
  induction k with
  | zero => omega
  | succ k ih =>
    show cnt g k 0 + (if g k = 0 then 1 else 0) = cnt f k 0 + (if f k = 0 then 1 else 0) + 1
    by_cases e : (k : Int) = i
    · rw [e, if_pos h3, if_neg h2, cnt_congr (f := g) (g := f) 0 k (fun j hj => h4 j ⟨by omega, by omega⟩)]
      omega
    · rw [ih (by omega) (fun j hj => h4 j ⟨by omega, hj.2⟩), h4 k ⟨by omega, e⟩]
      omega
section VTREE2
variable {T A : Int → Int} {D : Int → Nat} {N U Lc : Int} {ls : Int → Int} {n : Nat} {I : Nat → Prop} {d : Nat} {m b : Int}
theorem x15 (hd : d ≤ 14) : (2 : Int) ^ (15 - d) = 2 * 2 ^ (14 - d) := by
  rw [show 15 - d = (14 - d) + 1 by omega]
  exact p2s _
/-- the slot towards U -/
theorem slt_fl (hw : wkI T A D N U d m) (hd : d ≤ 14) (hb : b = U / 2 ^ (14 - d) % 2) : slt A D m b = U / 2 ^ (14 - d) * 2 ^ (14 - d) := by
  obtain ⟨⟨-, w2, w3⟩, -, -⟩ := hw
  unfold slt
  rw [w2, w3, hb, x15 hd]
  exact fl_half U (two_pos _)
/-- a slot that begins where U's does, at the same depth, is that slot -/
theorem slt_u (h : tnV T A D N U ls n I Lc) (hw : wkI T A D N U d m) (hd : d ≤ 14) (hb : b = U / 2 ^ (14 - d) % 2) {m2 b2 : Int} (m0 : 0 ≤ m2) (m1 : m2 < N) (b0 : 0 ≤ b2) (b1 : b2 ≤ 1) (hD : D m2 = d) (he : slt A D m2 b2 = slt A D m b) : m2 = m ∧ b2 = b := by
  have hX := two_pos (14 - d)
  have es := slt_fl hw hd hb
  have hx := fl_b U hX
  obtain ⟨⟨w1, w2, w3⟩, -, -⟩ := hw
  obtain ⟨a1, a2, a3, a4⟩ := h.1.2 m2 m0 m1
  have e15 := x15 (d := d) hd
  have hfl : U / 2 ^ (14 - d) * 2 ^ (14 - d) < A m + 2 ^ (15 - d) := by
    have := fl_b U (show (0 : Int) < 2 ^ (15 - d) by omega)
    rw [← w3] at this
    omega
  rw [es] at he
  have hAm : mlt (A m) (2 ^ (15 - d)) := by rw [w3]; exact mlt_mul _ _
  have hle : A m ≤ U / 2 ^ (14 - d) * 2 ^ (14 - d) := by
    rw [← es]
    unfold slt
    rw [w2]
    have hb01 : b = 0 ∨ b = 1 := by omega
    rcases hb01 with q | q
    · rw [q]
      omega
    · rw [q]
      omega
  unfold slt at he
  rw [hD] at he a4
  have hb2 : b2 = 0 ∨ b2 = 1 := by omega
  have eA : A m2 = A m := by
    refine mlt_eq (by omega) a4 hAm ?_ ?_
    · rcases hb2 with q | q
      · rw [q] at he
        omega
      · rw [q] at he
        omega
    · rcases hb2 with q | q
      · rw [q] at he
        omega
      · rw [q] at he
        omega
  have em := h.2.1 m2 m m0 m1 w1.1 w1.2 eA (by rw [hD, w2])
  refine ⟨em, ?_⟩
  rw [← es] at he
  unfold slt at he
  rw [eA, w2] at he
  have hb01 : b = 0 ∨ b = 1 := by omega
  rcases hb2 with q | q <;> rcases hb01 with q2 | q2 <;> rw [q, q2] at he ⊢ <;> omega
theorem no_leaf (h : tnV T A D N U ls n I Lc) (hw : wkI T A D N U d m) (hd : d ≤ 14) (hb : b = U / 2 ^ (14 - d) % 2) : ¬ T (2 * m + b) < 0 := by
  intro z
  have es := slt_fl hw hd hb
  have hx := fl_b U (two_pos (14 - d))
  have q := ((h.2.2.1 m b hw.1.1.1 hw.1.1.2 (by omega) (by omega)).2.2 z).1
  rw [es, hw.1.2.1] at q
  omega
theorem step_old (h : tnV T A D N U ls n I Lc) (hw : wkI T A D N U d m) (hd : d ≤ 13) (hb : b = U / 2 ^ (14 - d) % 2) (hp : 0 < T (2 * m + b)) : wkI T A D N U (d + 1) (T (2 * m + b)) := by
  have es := slt_fl hw (by omega) hb
  have SU := fun m2 b2 => slt_u (m2 := m2) (b2 := b2) h hw (by omega) hb
  obtain ⟨⟨w1, w2, w3⟩, w4, w5⟩ := hw
  obtain ⟨q1, q2, q3⟩ := (h.2.2.1 m b w1.1 w1.2 (by omega) (by omega)).1 hp
  refine ⟨⟨⟨by omega, q1⟩, by rw [q3, w2], ?_⟩, fun m2 m0 m1 e => ?_, fun m2 b2 m0 m1 b0 b1 hD hz => ?_⟩
  · rw [q2, es, show 15 - (d + 1) = 14 - d by omega]
  · have := w4 m2 m0 m1 e
    omega
  · by_cases e : D m2 < d
    · exact w5 m2 b2 m0 m1 b0 b1 e hz
    · have eD : D m2 = d := by omega
      have q := (h.2.2.1 m2 b2 m0 m1 b0 b1).2.1 hz
      by_cases e2 : slt A D m2 b2 = U
      · have hx := fl_b U (two_pos (14 - d))
        have ml : mlt (slt A D m2 b2) (2 ^ (14 - d)) := by
          unfold slt
          rw [eD]
          refine mlt_add (mlt_down (j := 15 - d) ?_ (by omega)) (mlt_mul _ _)
          have := (h.1.2 m2 m0 m1).2.2.2
          rw [eD] at this
          exact this
        have e3 : slt A D m2 b2 = slt A D m b := by
          rw [es]
          exact fl_u (two_pos _) ml (by omega) (by have := two_pos (14 - d); omega)
        obtain ⟨k1, k2⟩ := SU m2 b2 m0 m1 b0 b1 eD e3
        rw [k1, k2] at hz
        omega
      · omega
theorem step_new (h : tnV T A D N U ls n I Lc) (hw : wkI T A D N U d m) (hd : d ≤ 13) (hb : b = U / 2 ^ (14 - d) % 2) (hz : T (2 * m + b) = 0) (hU : 0 ≤ U) {T2 : Int → Int} (g1 : T2 (2 * m + b) = N) (g2 : T2 (2 * N) = 0) (g3 : T2 (2 * N + 1) = 0) (g4 : ∀ i : Int, i ≠ 2 * m + b → i ≠ 2 * N → i ≠ 2 * N + 1 → T2 i = T i) : tnV T2 (ur A N U) (udN D N (d + 1)) (N + 1) U ls n I Lc ∧ wkI T2 (ur A N U) (udN D N (d + 1)) (N + 1) U (d + 1) N := by
  have h0 := h
  have es := slt_fl hw (by omega) hb
  have SU := fun m2 b2 => slt_u (m2 := m2) (b2 := b2) h hw (by omega) hb
  have hx := fl_b U (two_pos (14 - d))
  obtain ⟨hN, hI, hS, hP, hC, hZ⟩ := h
  have hw0 := hw
  obtain ⟨⟨w1, w2, w3⟩, w4, w5⟩ := hw
  have hsU : slt A D m b = U := by
    have q := (hS m b w1.1 w1.2 (by omega) (by omega)).2.1 hz
    omega
  have N1 := hN.1.1
  have hAo : ∀ i : Int, i < N → ur A N U i = A i := fun i hi => ur_ne (by omega)
  have hDo : ∀ i : Int, i < N → udN D N (d + 1) i = D i := fun i hi => udN_ne (by omega)
  have hSl : ∀ m2 b2 : Int, m2 < N → slt (ur A N U) (udN D N (d + 1)) m2 b2 = slt A D m2 b2 := by
    intro m2 b2 hm
    unfold slt
    rw [hAo m2 hm, hDo m2 hm]
  have hTo : ∀ m2 b2 : Int, 0 ≤ m2 → m2 < N → 0 ≤ b2 → b2 ≤ 1 → ¬ (m2 = m ∧ b2 = b) → T2 (2 * m2 + b2) = T (2 * m2 + b2) := fun m2 b2 _ _ _ _ hne => g4 _ (by omega) (by omega) (by omega)
  have hTN : ∀ b2 : Int, 0 ≤ b2 → b2 ≤ 1 → T2 (2 * N + b2) = 0 := by
    intro b2 b0 b1
    have e : b2 = 0 ∨ b2 = 1 := by omega
    rcases e with e | e
    · rw [e, show 2 * N + 0 = 2 * N by omega]
      exact g2
    · rw [e]
      exact g3
  have hmU : mlt U (2 ^ (15 - (d + 1))) := by
    rw [show 15 - (d + 1) = 14 - d by omega, ← hsU, es]
    exact mlt_mul _ _
  have hnew : ∀ m2 : Int, 0 ≤ m2 → m2 < N → A m2 = U → D m2 = d + 1 → False := by
    intro m2 m0 m1 eA eD
    have := w4 m2 m0 m1 eA
    omega
  refine ⟨⟨⟨⟨by omega, ?_, ?_⟩, fun m2 m0 m1 => ?_⟩, fun m2 m3 a0 a1 b0 b1 eA eD => ?_, fun m2 b2 m0 m1 b0 b1 => ?_, fun m2 m0 m1 => ?_, fun s hs hi => ?_, ?_⟩, ⟨⟨by omega, udN_at _ _ _, ?_⟩, fun m2 m0 m1 e => ?_, fun m2 b2 m0 m1 b0 b1 hD hz2 => ?_⟩⟩
  · rw [hAo 0 (by omega)]
    exact hN.1.2.1
  · rw [hDo 0 (by omega)]
    exact hN.1.2.2
  · by_cases e : m2 = N
    · rw [e, udN_at, ur_at]
      exact ⟨by omega, hU, by omega, hmU⟩
    · rw [hAo m2 (by omega), hDo m2 (by omega)]
      exact hN.2 m2 m0 (by omega)
  · by_cases e : m2 = N
    · by_cases e2 : m3 = N
      · omega
      · rw [e, ur_at, hAo m3 (by omega)] at eA
        rw [e, udN_at, hDo m3 (by omega)] at eD
        exact (hnew m3 b0 (by omega) eA.symm eD.symm).elim
    · by_cases e2 : m3 = N
      · rw [e2, ur_at, hAo m2 (by omega)] at eA
        rw [e2, udN_at, hDo m2 (by omega)] at eD
        exact (hnew m2 a0 (by omega) eA eD).elim
      · rw [hAo m2 (by omega), hAo m3 (by omega)] at eA
        rw [hDo m2 (by omega), hDo m3 (by omega)] at eD
        exact hI m2 m3 a0 (by omega) b0 (by omega) eA eD
  · by_cases e : m2 = N
    · rw [e, hTN b2 b0 b1]
      refine ⟨fun z => by omega, fun _ => ?_, fun z => by omega⟩
      unfold slt
      rw [ur_at]
      have q := two_pos (14 - udN D N (d + 1) N)
      have e2 : b2 = 0 ∨ b2 = 1 := by omega
      rcases e2 with e2 | e2
      · rw [e2]
        omega
      · rw [e2]
        omega
    · rw [hSl m2 b2 (by omega), hDo m2 (by omega)]
      by_cases e2 : m2 = m ∧ b2 = b
      · rw [e2.1, e2.2, g1]
        refine ⟨fun _ => ⟨by omega, ?_, ?_⟩, fun z => by omega, fun z => by omega⟩
        · rw [ur_at]
          exact hsU.symm
        · rw [udN_at, w2]
      · rw [hTo m2 b2 m0 (by omega) b0 b1 e2]
        obtain ⟨q1, q2, q3⟩ := hS m2 b2 m0 (by omega) b0 b1
        refine ⟨fun z => ?_, q2, q3⟩
        obtain ⟨q4, q5, q6⟩ := q1 z
        rw [hAo _ q4, hDo _ q4]
        exact ⟨by omega, q5, q6⟩
  · by_cases e : m2 = N
    · exact ⟨m, b, by omega, by rw [g1, e]⟩
    · obtain ⟨m3, b3, q1, q2⟩ := hP m2 m0 (by omega)
      refine ⟨m3, b3, by omega, ?_⟩
      rw [hTo m3 b3 q1.1 q1.2.1 q1.2.2.1 q1.2.2.2 (fun z => by rw [z.1, z.2, hz] at q2; omega)]
      exact q2
  · obtain ⟨m3, b3, q1, q2, q3, q4⟩ := hC s hs hi
    refine ⟨m3, b3, by omega, ?_, ?_, ?_⟩
    · rw [hTo m3 b3 q1.1 q1.2.1 q1.2.2.1 q1.2.2.2 (fun z => by rw [z.1, z.2, hz] at q2; omega)]
      exact q2
    · rw [hDo m3 q1.2.1]
      exact q3
    · rw [hSl m3 b3 q1.2.1]
      exact q4
  · unfold tnZ at hZ ⊢
    rw [show (2 * (N + 1)).toNat = (2 * N).toNat + 1 + 1 by omega]
    show cnt (zf T2) (2 * N).toNat 0 + (if zf T2 ((2 * N).toNat : Int) = 0 then 1 else 0) + (if zf T2 (((2 * N).toNat + 1 : Nat) : Int) = 0 then 1 else 0) = _
    have z1 : zf T2 ((2 * N).toNat : Int) = 1 := by
      unfold zf
      rw [show (((2 * N).toNat : Nat) : Int) = 2 * N by omega, if_pos g2]
    have z2 : zf T2 (((2 * N).toNat + 1 : Nat) : Int) = 1 := by
      unfold zf
      rw [show (((2 * N).toNat + 1 : Nat) : Int) = 2 * N + 1 by omega, if_pos g3]
    rw [if_neg (by omega), if_neg (by omega)]
    have z3 : cnt (zf T2) (2 * N).toNat 0 = cnt (zf T) (2 * N).toNat 0 + 1 := by
      refine cnt_one (i := 2 * m + b) _ (by omega) (by omega) ?_ ?_ (fun j hj => ?_)
      · unfold zf
        rw [if_pos hz]
        omega
      · unfold zf
        rw [g1, if_neg (by omega)]
      · unfold zf
        by_cases ej : (j : Int) = 2 * m + b
        · exact absurd ej hj.2
        · rw [g4 _ ej (by omega) (by omega)]
    omega
  · rw [ur_at, show 15 - (d + 1) = 14 - d by omega]
    omega
  · by_cases e2 : m2 = N
    · rw [e2, udN_at]
      omega
    · rw [hAo m2 (by omega)] at e
      rw [hDo m2 (by omega)]
      have := w4 m2 m0 (by omega) e
      omega
  · by_cases e2 : m2 = N
    · rw [e2, udN_at] at hD
      omega
    · rw [hDo m2 (by omega)] at hD
      rw [hSl m2 b2 (by omega)]
      by_cases e3 : m2 = m ∧ b2 = b
      · rw [e3.1, e3.2, g1] at hz2
        omega
      · rw [hTo m2 b2 m0 (by omega) b0 b1 e3] at hz2
        have q := (hS m2 b2 m0 (by omega) b0 b1).2.1 hz2
        by_cases e4 : D m2 < d
        · exact w5 m2 b2 m0 (by omega) b0 b1 e4 hz2
        · by_cases e5 : slt A D m2 b2 = U
          · have eD : D m2 = d := by omega
            exact absurd (SU m2 b2 m0 (by omega) b0 b1 eD (by rw [e5, hsU])) e3
          · omega
end VTREE2
