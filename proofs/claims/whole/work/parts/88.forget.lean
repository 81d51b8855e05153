/-! CONTRACTS: the class's forget -/
def fgC (M : FM) (a : Nat) : FM := um M 10 (cpf (M 10) (M 10) (M a 11 + M a 12) (M a 11) (M 9 1 - (M a 11 + M a 12)))
def fgM (M : FM) (a : Nat) : FM := um (fgC M a) 9 (ur (fgC M a 9) 1 (fgC M a 9 1 - fgC M a a 12))
theorem fgM_o (M : FM) (a : Nat) {c : Nat} (h1 : c ≠ 9) (h2 : c ≠ 10) : fgM M a c = M c := by
  unfold fgM fgC
  rw [um_ne h1, um_ne h2]
theorem fgM_10 (M : FM) (a : Nat) : fgM M a 10 = cpf (M 10) (M 10) (M a 11 + M a 12) (M a 11) (M 9 1 - (M a 11 + M a 12)) := by
  unfold fgM fgC
  rw [um_ne (by decide), um_at]
theorem fgM_9 (M : FM) (a : Nat) (ha : a ≠ 10) : fgM M a 9 = ur (M 9) 1 (M 9 1 - M a 12) := by
  unfold fgM fgC
  rw [um_at, um_ne (show (9 : Nat) ≠ 10 by decide), um_ne ha]
theorem nodeP_same {sh : Nat → Option Shp} {M M2 : FM} {i : Int} (h11 : M2 11 = M 11) (hc : ∀ c : Nat, (c = 17 ∨ 265 ≤ c) → M2 c = M c) (h : nodeP sh M i) : nodeP sh M2 i := by
  unfold nodeP at h ⊢
  rw [h11]
  rcases h with h | ⟨a, hh, tt, e1, e2, e3, e4⟩
  · exact Or.inl h
  · refine Or.inr ⟨a, hh, tt, e1, e2, e3, ?_⟩
    rw [hc a e3]
    exact e4
section FORGET
variable {d nx zl : Nat} {K : Option TV → FH → Prop} {sh : Nat → Option Shp} {M : FM}
theorem fg33 {a : Nat} {h t : Option Nat} (ha : a = 17 ∨ 265 ≤ a) (hS : shp sh a = some (.inr (3, nodeFl h t))) (hn : 0 ≤ M 8 2 ∧ M 8 2 ≤ 2000) (hnd : ∀ i : Int, 0 ≤ i → i < M 8 2 → nodeP sh M i) (h1 : 0 ≤ M a 11) (h2 : 0 ≤ M a 12) (h3 : M a 11 + M a 12 ≤ M 9 1) (h4 : M 9 1 ≤ 65536) (k : ∀ M2 : FM, shfP (fgM M a) M2 a (M a 11 + M a 12) (-(M a 12)) (M 8 2) → K none (sh, M2, nx, zl)) : b44_33 (d + 1) (fW (d + 1) kd44 K) K [some (fx 8), some (gr a), none] [] (sh, M, nx, zl) := by
  refine ⟨_, hS, ?_⟩
  refine ⟨_, hS, ?_⟩
  refine ⟨_, hS, ?_⟩
  refine ⟨.byte, 65536, 65536, ⟨rfl, rfl⟩, by omega, ⟨trivial, by decide, by decide⟩, ?_⟩
  refine ⟨_, hS, ?_⟩
  refine ⟨_, hS, ?_⟩
  have e8 : fgM M a 8 = M 8 := fgM_o M a (by decide) (by decide)
  have ea : fgM M a a = M a := fgM_o M a (by omega) (by omega)
  refine fm_Y.eqE (h2 := (sh, fgM M a, nx, zl)) rfl ?_
  refine shift_Y (by omega) (by rw [e8]; exact hn) (fun i i0 i1 => ?_) (by omega) (fun M2 hM => ?_)
  · rw [e8] at i1
    exact nodeP_same (fgM_o M a (by decide) (by decide)) (fun c hc => fgM_o M a (by omega) (by omega)) (hnd i i0 i1)
  · rw [e8] at hM
    have e12 : fgM M a a 12 = M a 12 := by rw [ea]
    have hM2 : shfP (fgM M a) M2 a (M a 11 + M a 12) (-(fgM M a a 12)) (M 8 2) := hM
    rw [e12] at hM2
    exact k M2 hM2
/-- the class's node goes -/
def fgN (M M1 : FM) (a : Nat) (tl : Int) : Prop := M1 11 = ur (M 11) (M a 0) (-1) ∧ M1 8 9 = M 8 9 - tl ∧ (∀ i : Int, i ≠ 9 → M1 8 i = M 8 i) ∧ ∀ c : Nat, c ≠ 8 → c ≠ 11 → M1 c = M c
theorem forget_Y {a : Nat} {h t : Option Nat} {tl : Int} (ha : a = 17 ∨ 265 ≤ a) (hS : shp sh a = some (.inr (3, nodeFl h t))) (ht0 : t = none → tl = 0) (ht1 : ∀ r : Nat, t = some r → tl = M r 1 ∧ 265 ≤ r ∧ ∃ b : Nat, shp sh r = some (.inr (1, [some (some b), none, none]))) (hn : 0 ≤ M 8 2 ∧ M 8 2 ≤ 2000) (hnd : ∀ i : Int, 0 ≤ i → i < M 8 2 → nodeP sh M i) (hi : 0 ≤ M a 0 ∧ M a 0 < M 8 2) (h1 : 0 ≤ M a 11) (h2 : 0 ≤ M a 12) (h3 : M a 11 + M a 12 ≤ M 9 1) (h4 : M 9 1 ≤ 65536) (k : ∀ M1 M2 : FM, fgN M M1 a tl → shfP (fgM M1 a) M2 a (M a 11 + M a 12) (-(M a 12)) (M 8 2) → K none (sh, M2, nx, zl)) : fm_Y (d + 2) 44 [.ref 8, .ref a] (sh, M, nx, zl) K := by
  have G : ∀ M1 : FM, fgN M M1 a tl → b44_33 (d + 1) (fW (d + 1) kd44 K) K [some (fx 8), some (gr a), none] [] (sh, M1, nx, zl) := by
    intro M1 hN
    obtain ⟨n1, n2, n3, n4⟩ := id hN
    have e8 : M1 8 2 = M 8 2 := n3 2 (by omega)
    have ea : M1 a = M a := n4 a (by omega) (by omega)
    have e9 : M1 9 = M 9 := n4 9 (by omega) (by omega)
    refine fg33 ha hS (by rw [e8]; exact hn) (fun i i0 i1 => ?_) (by rw [ea]; exact h1) (by rw [ea]; exact h2) (by rw [ea, e9]; exact h3) (by rw [e9]; exact h4) (fun M2 hM => ?_)
    · rw [e8] at i1
      have q := hnd i i0 i1
      unfold nodeP at q ⊢
      rw [n1]
      by_cases e : i = M a 0
      · rw [e, ur_at]
        exact Or.inl (by omega)
      · rw [ur_ne e]
        rcases q with q | ⟨b, hh, tt, e1, e2, e3, e4⟩
        · exact Or.inl q
        · refine Or.inr ⟨b, hh, tt, e1, e2, e3, ?_⟩
          rw [n4 b (by omega) (by omega)]
          exact e4
    · rw [ea, e8] at hM
      exact k M1 M2 hN hM
  refine m44 [fx 8, gr a] ?_
  refine ⟨_, hS, ?_⟩
  refine ⟨by omega, ?_⟩
  refine ⟨_, hS, ?_⟩
  cases t with
  | none =>
    have t0 := ht0 rfl
    refine G _ ⟨?_, ?_, ?_, ?_⟩
    · rw [um_at]
    · rw [um_ne (by decide), t0]
      omega
    · intro i _
      rw [um_ne (by decide)]
    · intro c _ hc
      rw [um_ne hc]
  | some r =>
    obtain ⟨t1, t2, b, t3⟩ := ht1 r rfl
    refine ⟨_, hS, ?_⟩
    refine ⟨_, t3, ?_⟩
    refine G _ ⟨?_, ?_, ?_, ?_⟩
    · rw [um_ne (by decide), um_at]
    · rw [um_at, ur_at, um_ne (show (8 : Nat) ≠ 11 by decide), um_ne (show r ≠ 11 by omega), t1]
    · intro i hi
      rw [um_at, ur_ne hi, um_ne (by decide)]
    · intro c c1 c2
      rw [um_ne c1, um_ne c2]
end FORGET
