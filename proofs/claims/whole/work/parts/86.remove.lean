/-! CONTRACTS: an entry less -/
def remF (M M2 : FM) (p : Int) (af ac : Nat) (n : Int) : Prop :=
  (∀ i : Int, 0 ≤ i → i < M 8 7 - 1 → M2 12 i = del (M 12) p i ∧ M2 13 i = del (M 13) p i ∧ M2 14 i = del (M 14) p i)
  ∧ M2 8 = ur (ur (M 8) 8 (M 8 8 - n)) 7 (M 8 7 - 1)
  ∧ M2 af = ur (M af) 10 (M af 10 - 1) ∧ M2 ac = ur (M ac) 9 (M ac 9 - 1)
  ∧ ∀ c : Nat, c ≠ 8 → c ≠ 12 → c ≠ 13 → c ≠ 14 → c ≠ af → c ≠ ac → M2 c = M c
theorem cp_del {f : Int → Int} {p e i : Int} (h2 : i < e - 1) : cpf f f (p + 1) p (e - 1 - p) i = del f p i := by
  unfold del cpf
  by_cases a1 : i < p
  · rw [if_pos a1, if_neg (by omega)]
  · rw [if_neg a1, if_pos (by omega)]
    congr 1
    omega
section REMOVE
variable {d nx zl : Nat} {K : Option TV → FH → Prop} {sh : Nat → Option Shp} {M : FM}
theorem remove_Y {af ac ar : Nat} {p : Int} {h1 t1 h2 t2 : Option Nat} {ab : Nat} (hsf : shp sh af = some (.inr (3, nodeFl h1 t1))) (hsc : shp sh ac = some (.inr (3, nodeFl h2 t2))) (hsr : shp sh ar = some (.inr (1, [some (some ab), none, none]))) (hf17 : af = 17 ∨ 265 ≤ af) (hc17 : ac = 17 ∨ 265 ≤ ac) (hr17 : 265 ≤ ar) (hac : af ≠ ac)
    (hp0 : 0 ≤ p) (hp1 : p < M 8 7) (he : M 8 7 ≤ 2000) (e12 : M 12 p = af) (e13 : M 13 p = ac) (e14 : M 14 p = ar)
    (h12 : ∀ k : Int, 0 ≤ k → k < M 8 7 → ∃ (a : Nat) (fl : List (Option (Option Nat))), M 12 k = a ∧ shp sh a = some (.inr (3, fl))) (h13 : ∀ k : Int, 0 ≤ k → k < M 8 7 → ∃ (a : Nat) (fl : List (Option (Option Nat))), M 13 k = a ∧ shp sh a = some (.inr (3, fl))) (h14 : ∀ k : Int, 0 ≤ k → k < M 8 7 → ∃ (a : Nat) (fl : List (Option (Option Nat))), M 14 k = a ∧ shp sh a = some (.inr (1, fl)))
    (k : ∀ M2 : FM, remF M M2 p af ac (M ar 1) → K none (sh, M2, nx, zl)) : fm_Y (d + 1) 43 [.ref 8, .int (Int32.ofInt p)] (sh, M, nx, zl) K := by
  refine m43 [fx 8, ti p] ?_
  refine ⟨by omega, fun m e => ?_, fun w => by omega⟩
  have em : m = ar := by omega
  subst em
  refine ⟨_, hsr, ?_⟩
  obtain ⟨R1, g1⟩ : ∃ R1 : FM, R1 = um M 8 (ur (M 8) 8 (M 8 8 - M m 1)) := ⟨_, rfl⟩
  have o1 : ∀ c, c ≠ 8 → R1 c = M c := fun c hc => by rw [g1, um_ne hc]
  have a1 : R1 8 = ur (M 8) 8 (M 8 8 - M m 1) := by rw [g1, um_at]
  have w12 := o1 12 (by decide)
  have w13 := o1 13 (by decide)
  have w14 := o1 14 (by decide)
  refine ⟨by omega, fun m2 e => ?_, fun w => by rw [← g1, w12] at w; omega⟩
  have em : m2 = af := by rw [← g1, w12] at e; omega
  subst em
  refine ⟨_, hsf, ?_⟩
  refine ⟨_, ⟨by omega, hsf, rfl⟩, ?_⟩
  obtain ⟨R2, g2⟩ : ∃ R2 : FM, R2 = um R1 m2 (ur (R1 m2) 10 (R1 m2 10 - 1)) := ⟨_, rfl⟩
  have o2 : ∀ c, c ≠ m2 → R2 c = R1 c := fun c hc => by rw [g2, um_ne hc]
  have a2 : R2 m2 = ur (M m2) 10 (M m2 10 - 1) := by rw [g2, um_at, o1 m2 (by omega)]
  have v13 : R2 13 = M 13 := by rw [o2 13 (by omega), w13]
  refine ⟨by omega, fun m3 e => ?_, fun w => by rw [← g1, ← g2, v13] at w; omega⟩
  have em : m3 = ac := by rw [← g1, ← g2, v13] at e; omega
  subst em
  refine ⟨_, hsc, ?_⟩
  refine ⟨_, ⟨by omega, hsc, rfl⟩, ?_⟩
  obtain ⟨R3, g3⟩ : ∃ R3 : FM, R3 = um R2 m3 (ur (R2 m3) 9 (R2 m3 9 - 1)) := ⟨_, rfl⟩
  have o3 : ∀ c, c ≠ m3 → R3 c = R2 c := fun c hc => by rw [g3, um_ne hc]
  have a3 : R3 m3 = ur (M m3) 9 (M m3 9 - 1) := by rw [g3, um_at, o2 m3 (fun q => hac q.symm), o1 m3 (by omega)]
  have b3 : R3 8 = ur (M 8) 8 (M 8 8 - M m 1) := by rw [o3 8 (by omega), o2 8 (by omega), a1]
  obtain ⟨R4, g4⟩ : ∃ R4 : FM, R4 = um R3 8 (ur (R3 8) 7 (R3 8 7 - 1)) := ⟨_, rfl⟩
  have o4 : ∀ c, c ≠ 8 → R4 c = R3 c := fun c hc => by rw [g4, um_ne hc]
  have a4 : R4 8 = ur (ur (M 8) 8 (M 8 8 - M m 1)) 7 (M 8 7 - 1) := by
    rw [g4, um_at, b3]
    rfl
  have O4 : ∀ c, c ≠ 8 → c ≠ m2 → c ≠ m3 → R4 c = M c := fun c c1 c2 c3 => by rw [o4 c c1, o3 c c3, o2 c c2, o1 c c1]
  have q4 : R4 8 7 = M 8 7 - 1 := by rw [a4, ur_at]
  have x12 := O4 12 (by omega) (by omega) (by omega)
  have x13 := O4 13 (by omega) (by omega) (by omega)
  have x14 := O4 14 (by omega) (by omega) (by omega)
  have r12 : ∀ i : Int, p + 1 ≤ i → i < p + 1 + (M 8 7 - 1 - p) → rok sh "FrozenVolume$Node" (M 12 i) := by
    intro i i1 i2
    obtain ⟨a, fl, q1, q2⟩ := h12 i (by omega) (by omega)
    exact rok_3 q1 q2
  have r13 : ∀ i : Int, p + 1 ≤ i → i < p + 1 + (M 8 7 - 1 - p) → rok sh "FrozenVolume$Node" (M 13 i) := by
    intro i i1 i2
    obtain ⟨a, fl, q1, q2⟩ := h13 i (by omega) (by omega)
    exact rok_3 q1 q2
  have r14 : ∀ i : Int, p + 1 ≤ i → i < p + 1 + (M 8 7 - 1 - p) → rok sh "FrozenVolume$Row" (M 14 i) := by
    intro i i1 i2
    obtain ⟨a, fl, q1, q2⟩ := h14 i (by omega) (by omega)
    exact rok_1 q1 q2
  refine ⟨.object "FrozenVolume$Node", 2000, 2000, ⟨rfl, rfl⟩, ?_, ⟨?_, by decide, by decide⟩, ?_⟩
  · rw [← g1, ← g2, ← g3, ← g4]
    omega
  · rw [← g1, ← g2, ← g3, ← g4]
    intro i i1 i2
    rw [x12]
    exact r12 i i1 (by omega)
  rw [← g1, ← g2, ← g3, ← g4]
  generalize g5 : um R4 12 (cpf (R4 12) (R4 12) (p + 1) p (R4 8 7 - p)) = R5
  have o5 : ∀ c, c ≠ 12 → R5 c = R4 c := fun c hc => by rw [← g5, um_ne hc]
  have a5 : R5 12 = cpf (M 12) (M 12) (p + 1) p (M 8 7 - 1 - p) := by rw [← g5, um_at, x12, q4]
  have q5 : R5 8 7 = M 8 7 - 1 := by rw [o5 8 (by decide), q4]
  have y13 : R5 13 = M 13 := by rw [o5 13 (by decide), x13]
  refine ⟨.object "FrozenVolume$Node", 2000, 2000, ⟨rfl, rfl⟩, by omega, ⟨fun i i1 i2 => by rw [y13]; exact r13 i i1 (by omega), by decide, by decide⟩, ?_⟩
  generalize g6 : um R5 13 (cpf (R5 13) (R5 13) (p + 1) p (R5 8 7 - p)) = R6
  have o6 : ∀ c, c ≠ 13 → R6 c = R5 c := fun c hc => by rw [← g6, um_ne hc]
  have a6 : R6 13 = cpf (M 13) (M 13) (p + 1) p (M 8 7 - 1 - p) := by rw [← g6, um_at, y13, q5]
  have q6 : R6 8 7 = M 8 7 - 1 := by rw [o6 8 (by decide), q5]
  have y14 : R6 14 = M 14 := by rw [o6 14 (by decide), o5 14 (by decide), x14]
  refine ⟨.object "FrozenVolume$Row", 2000, 2000, ⟨rfl, rfl⟩, by omega, ⟨fun i i1 i2 => by rw [y14]; exact r14 i i1 (by omega), by decide, by decide⟩, ?_⟩
  generalize g7 : um R6 14 (cpf (R6 14) (R6 14) (p + 1) p (R6 8 7 - p)) = R7
  have o7 : ∀ c, c ≠ 14 → R7 c = R6 c := fun c hc => by rw [← g7, um_ne hc]
  have a7 : R7 14 = cpf (M 14) (M 14) (p + 1) p (M 8 7 - 1 - p) := by rw [← g7, um_at, y14, q6]
  have O7 : ∀ c, c ≠ 12 → c ≠ 13 → c ≠ 14 → R7 c = R4 c := fun c c1 c2 c3 => by rw [o7 c c3, o6 c c2, o5 c c1]
  refine k R7 ⟨fun i i0 i1 => ⟨?_, ?_, ?_⟩, ?_, ?_, ?_, fun c c1 c2 c3 c4 c5 c6 => ?_⟩
  · rw [o7 12 (by decide), o6 12 (by decide), a5]
    exact cp_del i1
  · rw [o7 13 (by decide), a6]
    exact cp_del i1
  · rw [a7]
    exact cp_del i1
  · rw [O7 8 (by decide) (by decide) (by decide), a4]
  · rw [O7 m2 (by omega) (by omega) (by omega), o4 m2 (by omega), o3 m2 hac, a2]
  · rw [O7 m3 (by omega) (by omega) (by omega), o4 m3 (by omega), a3]
  · rw [O7 c c2 c3 c4, O4 c c1 c5 c6]
/-- the reference's close: the bytes behind come down -/
theorem mclose_Y {a na : Nat} {n s e : Int} (ha : shp sh a = some (.inl (.byte, na))) (ha3 : 3 ≤ a) (hna : na ≤ 65536) (h0 : 0 ≤ s) (h1 : 0 ≤ e) (h2 : n ≤ na) (h3 : s ≤ 65536) (h4 : e ≤ 65536) (h5 : -2147483648 ≤ n)
    (k : ∀ M2 : FM, (∀ c, c ≠ a → M2 c = M c) → (∀ i : Int, i < s → M2 a i = M a i) → (∀ i : Int, s ≤ i → i + e < n → M2 a i % 256 = M a (i + e) % 256) → K none (sh, M2, nx, zl)) : fm_Y (d + 1) 256 [.ref a, .int (Int32.ofInt n), .int (Int32.ofInt s), .int (Int32.ofInt e)] (sh, M, nx, zl) K := by
  refine m256 [gr a, ti n, ti s, ti e] ?_
  have L : ∀ (N : Nat) (i : Int) (M2 : FM), (n - i).toNat < N → s ≤ i → (i ≤ s ∨ i + e ≤ n) → (∀ c, c ≠ a → M2 c = M c) → (∀ j : Int, j < s → M2 a j = M a j) → (∀ j : Int, i ≤ j → M2 a j = M a j) → (∀ j : Int, s ≤ j → j < i → M2 a j % 256 = M a (j + e) % 256) → fm_X d kd256 3 [some (gr a), some (ti n), some (ti s), some (ti e), some (ti i)] [] (sh, M2, nx, zl) K := by
    intro N
    induction N with
    | zero =>
      intro i M2 q1 q2 q3
      omega
    | succ N ih =>
      intro i M2 q1 q2 q3 q4 q5 q6 q7
      have q8 : i ≤ 2147400000 := by omega
      refine s256_3 d K _ _ _ ?_
      refine ⟨by omega, fun w => ?_, fun w => ?_⟩
      · exact k M2 q4 q5 (fun j j0 j1 => q7 j j0 (by omega))
      · refine ⟨na, ha, by omega, ?_⟩
        refine ⟨na, ha, by omega, ?_⟩
        refine ih (i + 1) _ (by omega) (by omega) (by omega) ?_ ?_ ?_ ?_
        · intro c hc
          rw [um_ne hc]
          exact q4 c hc
        · intro j hj
          rw [um_at, ur_ne (by omega)]
          exact q5 j hj
        · intro j hj
          rw [um_at, ur_ne (by omega)]
          exact q6 j (by omega)
        · intro j j0 j1
          rw [um_at]
          by_cases ej : j = i
          · rw [ej, ur_at, q6 (i + e) (by omega)]
            omega
          · rw [ur_ne ej]
            exact q7 j j0 (by omega)
  exact L ((n - s).toNat + 1) s M (by omega) (by omega) (by omega) (fun _ _ => rfl) (fun _ _ => rfl) (fun _ _ => rfl) (fun j j0 j1 => by omega)
end REMOVE
