/-! CONTRACTS: the class's shift -/
def selS (M : FM) (g : Nat) (s : Int) (a : Nat) : Prop := a ≠ g ∧ M a 1 = 2 ∧ s ≤ M a 11
/-- the files of the first n nodes that begin at s or behind have been moved by y -/
def shfP (M M2 : FM) (g : Nat) (s y n : Int) : Prop := (∀ c : Nat, (∀ i : Int, 0 ≤ i → i < n → M 11 i ≠ c) → M2 c = M c) ∧ ∀ (i : Int) (a : Nat), 0 ≤ i → i < n → M 11 i = a → (selS M g s a → M2 a = ur (M a) 11 (M a 11 + y)) ∧ (¬ selS M g s a → M2 a = M a)
theorem shfP_nul {M M2 : FM} {g : Nat} {s y n : Int} (h : shfP M M2 g s y n) (hm : ∀ a : Nat, M 11 n ≠ a) : shfP M M2 g s y (n + 1) := by
  refine ⟨fun c hc => h.1 c (fun i i0 i1 => hc i i0 (by omega)), fun i a i0 i1 e => ?_⟩
  by_cases q : i = n
  · rw [q] at e
    exact absurd e (hm a)
  · exact h.2 i a i0 (by omega) e
theorem shfP_no {M M2 : FM} {g m : Nat} {s y n : Int} (h : shfP M M2 g s y n) (hn : 0 ≤ n) (hm : M 11 n = m) (hj : ∀ j : Int, 0 ≤ j → j < n → M 11 j ≠ m) (hs : ¬ selS M g s m) : shfP M M2 g s y (n + 1) := by
  refine ⟨fun c hc => h.1 c (fun i i0 i1 => hc i i0 (by omega)), fun i a i0 i1 e => ?_⟩
  by_cases q : i = n
  · have ea : a = m := by
      rw [q] at e
      omega
    rw [ea]
    exact ⟨fun z => absurd z hs, fun _ => h.1 m hj⟩
  · exact h.2 i a i0 (by omega) e
theorem shfP_yes {M M2 : FM} {g m : Nat} {s y n : Int} (h : shfP M M2 g s y n) (hn : 0 ≤ n) (hm : M 11 n = m) (hj : ∀ j : Int, 0 ≤ j → j < n → M 11 j ≠ m) (hs : selS M g s m) : shfP M (um M2 m (ur (M2 m) 11 (M2 m 11 + y))) g s y (n + 1) := by
  refine ⟨fun c hc => ?_, fun i a i0 i1 e => ?_⟩
  · have hcm : c ≠ m := fun e => hc n hn (by omega) (by rw [e]; exact hm)
    rw [um_ne hcm]
    exact h.1 c (fun i i0 i1 => hc i i0 (by omega))
  · by_cases q : i = n
    · have ea : a = m := by
        rw [q] at e
        omega
      rw [ea, um_at, h.1 m hj]
      exact ⟨fun _ => rfl, fun z => absurd hs z⟩
    · have ea : a ≠ m := fun z => hj i i0 (by omega) (by rw [← z]; exact e)
      rw [um_ne ea]
      exact h.2 i a i0 (by omega) e
section SHIFT
variable {d nx zl : Nat} {K : Option TV → FH → Prop} {sh : Nat → Option Shp} {M : FM}
def nodeP (sh : Nat → Option Shp) (M : FM) (i : Int) : Prop := M 11 i < 0 ∨ ∃ (a : Nat) (h t : Option Nat), M 11 i = a ∧ shp sh a = some (.inr (3, nodeFl h t)) ∧ (a = 17 ∨ 265 ≤ a) ∧ (0 ≤ M a 11 ∧ M a 11 ≤ 65536) ∧ (1 ≤ M a 1 ∧ M a 1 ≤ 7) ∧ M a 0 = i
theorem nodeP_lo {i : Int} (h : nodeP sh M i) {c : Nat} (h1 : c < 265) (h2 : c ≠ 17) : M 11 i ≠ c := by
  rcases h with h | ⟨a, _, _, e, -, q, -⟩
  · omega
  · omega
theorem nodeP_inj {i j : Int} {m : Nat} (h1 : nodeP sh M i) (h2 : nodeP sh M j) (e1 : M 11 i = m) (e2 : M 11 j = m) : i = j := by
  rcases h1 with h1 | ⟨a, _, _, e, -, -, -, -, q⟩
  · omega
  · rcases h2 with h2 | ⟨b, _, _, e3, -, -, -, -, q3⟩
    · omega
    · have ab : a = b := by omega
      rw [ab] at q
      omega
theorem shift_Y {g : Nat} {s y : Int} (hg : 3 ≤ g) (hn : 0 ≤ M 8 2 ∧ M 8 2 ≤ 2000) (hnd : ∀ i : Int, 0 ≤ i → i < M 8 2 → nodeP sh M i) (hs : 0 ≤ s ∧ s ≤ 65536) (k : ∀ M2 : FM, shfP M M2 g s y (M 8 2) → K none (sh, M2, nx, zl)) : fm_Y (d + 1) 45 [.ref 8, .ref g, .int (Int32.ofInt s), .int (Int32.ofInt y)] (sh, M, nx, zl) K := by
  refine m45 [fx 8, gr g, ti s, ti y] ?_
  have L : ∀ (N : Nat) (i : Int) (M2 : FM) (y5 : Option TV), (M 8 2 - i).toNat < N → 0 ≤ i → i ≤ M 8 2 → shfP M M2 g s y i → fm_X d kd45 3 [some (fx 8), some (gr g), some (ti s), some (ti y), some (ti i), y5] [] (sh, M2, nx, zl) K := by
    intro N
    induction N with
    | zero => intro i M2 y5 h1; omega
    | succ N ih =>
      intro i M2 y5 h1 h2 h3 hP
      have lo : ∀ c : Nat, c < 265 → c ≠ 17 → M2 c = M c := fun c c1 c2 => hP.1 c (fun j j0 j1 => nodeP_lo (hnd j j0 (by omega)) c1 c2)
      have l8 : M2 8 2 = M 8 2 := by rw [lo 8 (by omega) (by omega)]
      have l11 : M2 11 = M 11 := lo 11 (by omega) (by omega)
      refine s45_3 d K _ _ _ ?_
      refine ⟨by omega, fun w => ?_, fun w => ?_⟩
      · have ei : i = M 8 2 := by omega
        rw [ei] at hP
        exact k M2 hP
      · have hi : i < M 8 2 := by omega
        refine ⟨by omega, fun m e => ?_, fun w2 => ?_⟩
        · rw [l11] at e
          have hq := hnd i h2 hi
          have hj : ∀ j : Int, 0 ≤ j → j < i → M 11 j ≠ m := fun j j0 j1 q => by
            have := nodeP_inj (hnd j j0 (by omega)) hq q e
            omega
          have em : M2 m = M m := hP.1 m hj
          rcases hq with hq | ⟨a, hh, tt, e3, e4, e5, e6, e7, e8⟩
          · omega
          · have ea : a = m := by omega
            subst ea
            have m1 : M2 a 1 = M a 1 := by rw [em]
            have m11 : M2 a 11 = M a 11 := by rw [em]
            refine ⟨⟨by omega, hg⟩, fun w3 => ?_, fun w3 => ?_⟩
            · exact ih (i + 1) M2 _ (by omega) (by omega) (by omega) (shfP_no hP h2 e3 hj (fun z => z.1 w3))
            · refine ⟨_, e4, ?_⟩
              refine ⟨by omega, fun w4 => ?_, fun w4 => ?_⟩
              · exact ih (i + 1) M2 _ (by omega) (by omega) (by omega) (shfP_no hP h2 e3 hj (fun z => by have := z.2.1; omega))
              · refine ⟨_, e4, ?_⟩
                refine ⟨by omega, fun w5 => ?_, fun w5 => ?_⟩
                · exact ih (i + 1) M2 _ (by omega) (by omega) (by omega) (shfP_no hP h2 e3 hj (fun z => by have := z.2.2; omega))
                · refine ⟨_, e4, ?_⟩
                  refine ⟨_, ⟨by omega, e4, rfl⟩, ?_⟩
                  exact ih (i + 1) _ _ (by omega) (by omega) (by omega) (shfP_yes hP h2 e3 hj ⟨w3, by omega, by omega⟩)
        · rw [l11] at w2
          exact ih (i + 1) M2 _ (by omega) (by omega) (by omega) (shfP_nul hP (fun a q => by omega))
  exact L ((M 8 2).toNat + 1) 0 M none (by omega) (by omega) hn.1 ⟨fun _ _ => rfl, fun i a i0 i1 => by omega⟩
end SHIFT
