/-! CONTRACTS: the class's grow, append, appendSame -/
def gwC (M : FM) (a : Nat) (n : Int) : FM := um M 10 (cpf (M 10) (M 10) (M a 11 + M a 12) (M a 11 + M a 12 + n) (M 9 1 - (M a 11 + M a 12)))
def gwD (M : FM) (a : Nat) (n : Int) : FM := um (gwC M a n) 9 (ur (gwC M a n 9) 1 (gwC M a n 9 1 + n))
def gwM (M : FM) (a : Nat) (n : Int) : FM := um (gwD M a n) a (ur (gwD M a n a) 12 (gwD M a n a 12 + n))
theorem gwM_o (M : FM) (a : Nat) (n : Int) {c : Nat} (h1 : c ≠ 9) (h2 : c ≠ 10) (h3 : c ≠ a) : gwM M a n c = M c := by
  unfold gwM gwD gwC
  rw [um_ne h3, um_ne h1, um_ne h2]
theorem gwM_10 (M : FM) (a : Nat) (n : Int) (ha : a ≠ 10) : gwM M a n 10 = cpf (M 10) (M 10) (M a 11 + M a 12) (M a 11 + M a 12 + n) (M 9 1 - (M a 11 + M a 12)) := by
  unfold gwM gwD gwC
  rw [um_ne (fun e => ha e.symm), um_ne (by decide), um_at]
theorem gwM_9 (M : FM) (a : Nat) (n : Int) (ha : a ≠ 9) : gwM M a n 9 = ur (M 9) 1 (M 9 1 + n) := by
  unfold gwM gwD gwC
  rw [um_ne (fun e => ha e.symm), um_at, um_ne (by decide)]
theorem gwM_a (M : FM) (a : Nat) (n : Int) (h1 : a ≠ 9) (h2 : a ≠ 10) : gwM M a n a = ur (M a) 12 (M a 12 + n) := by
  unfold gwM gwD gwC
  rw [um_at, um_ne h1, um_ne h2]
/-- what the class holds when a file got n bytes more -/
def gwF (M M3 : FM) (a : Nat) (n : Int) (g : Int → Int) : Prop := ∃ M2 : FM, shfP (gwM M a n) M2 a (M a 11 + M a 12) n (M 8 2) ∧ (∀ c : Nat, c ≠ 10 → M3 c = M2 c) ∧ (∀ j : Int, (j < M a 11 + M a 12 ∨ M a 11 + M a 12 + n ≤ j) → M3 10 j = M2 10 j) ∧ ∀ j : Int, 0 ≤ j → j < n → M3 10 (M a 11 + M a 12 + j) % 256 = g j % 256
section GROW
variable {d nx zl : Nat} {K : Option TV → FH → Prop} {sh : Nat → Option Shp} {M : FM} {F : Int}
theorem nodeP_gw {a : Nat} {n : Int} (ha : a = 17 ∨ 265 ≤ a) {i : Int} (h : nodeP sh M i) : nodeP sh (gwM M a n) i := by
  unfold nodeP at h ⊢
  rw [gwM_o M a n (by omega) (by omega) (by omega)]
  rcases h with h | ⟨b, hh, tt, e1, e2, e3, e4⟩
  · exact Or.inl h
  · refine Or.inr ⟨b, hh, tt, e1, e2, e3, ?_⟩
    by_cases e : b = a
    · rw [e, gwM_a M a n (by omega) (by omega), ur_ne (by omega), ur_ne (by omega), ur_ne (by omega), ← e]
      exact e4
    · rw [gwM_o M a n (by omega) (by omega) e]
      exact e4
theorem gw_low {a : Nat} {n : Int} {M2 : FM} (ha : a = 17 ∨ 265 ≤ a) (hnd : ∀ i : Int, 0 ≤ i → i < M 8 2 → nodeP sh M i) (hP : shfP (gwM M a n) M2 a (M a 11 + M a 12) n (M 8 2)) : (∀ c : Nat, c < 265 → c ≠ 17 → M2 c = gwM M a n c) ∧ M2 a = gwM M a n a := by
  refine ⟨fun c c1 c2 => hP.1 c (fun i i0 i1 e => nodeP_lo (nodeP_gw ha (hnd i i0 i1)) c1 c2 e), ?_⟩
  by_cases hex : ∃ i : Int, 0 ≤ i ∧ i < M 8 2 ∧ gwM M a n 11 i = a
  · obtain ⟨i, i0, i1, i6⟩ := hex
    exact (hP.2 i a i0 i1 i6).2 (fun z => z.1 rfl)
  · exact hP.1 a (fun i i0 i1 i6 => hex ⟨i, i0, i1, i6⟩)
theorem grow_Y {a : Nat} {h t : Option Nat} {n : Int} (ha : a = 17 ∨ 265 ≤ a) (hS : shp sh a = some (.inr (3, nodeFl h t))) (hn : 0 ≤ M 8 2 ∧ M 8 2 ≤ 2000) (hnd : ∀ i : Int, 0 ≤ i → i < M 8 2 → nodeP sh M i) (h1 : 0 ≤ M a 11) (h2 : 0 ≤ M a 12) (h3 : M a 11 + M a 12 ≤ M 9 1) (hn0 : 0 ≤ n) (h4 : M 9 1 + n ≤ 65536) (k : ∀ M2 : FM, shfP (gwM M a n) M2 a (M a 11 + M a 12) n (M 8 2) → K (some (ti (M a 11 + M a 12))) (sh, M2, nx, zl)) : fm_Y (d + 2) 48 [.ref 8, .ref a, .int (Int32.ofInt n)] (sh, M, nx, zl) K := by
  refine m48 [fx 8, gr a, ti n] ?_
  refine ⟨_, hS, ?_⟩
  refine ⟨_, hS, ?_⟩
  refine ⟨.byte, 65536, 65536, ⟨rfl, rfl⟩, by omega, ⟨trivial, by decide, by decide⟩, ?_⟩
  refine ⟨_, hS, ?_⟩
  refine ⟨_, ⟨by omega, hS, rfl⟩, ?_⟩
  have e8 : gwM M a n 8 = M 8 := gwM_o M a n (by decide) (by decide) (by omega)
  refine fm_Y.eqE (h2 := (sh, gwM M a n, nx, zl)) rfl ?_
  refine shift_Y (by omega) (by rw [e8]; exact hn) (fun i i0 i1 => ?_) (by omega) (fun M2 hM => ?_)
  · rw [e8] at i1
    exact nodeP_gw ha (hnd i i0 i1)
  · rw [e8] at hM
    exact k M2 hM
theorem append_Y (hT : treeR sh M) (hn : 0 ≤ M 4 1 ∧ M 4 1 ≤ 16384) (hF : -2147483648 ≤ F ∧ F ≤ 2147483647)
    (kB : ¬ (okN M F ∧ M 171 F = 2) → K (some (ti (-1))) (sh, M, nx, zl))
    (kF : okN M F → M 171 F = 2 → 65536 < M 9 1 + M 4 1 → K (some (ti (-6))) (sh, M, nx, zl))
    (kO : okN M F → M 171 F = 2 → M 9 1 + M 4 1 ≤ 65536 → ∀ (a : Nat) (M3 : FM), M 11 F = a → gwF M M3 a (M 4 1) (M 5) → K (some (ti (M a 12 + M 4 1))) (sh, M3, nx, zl)) : fm_Y (d + 3) 47 [.ref 8, .int (Int32.ofInt F), .ref 4] (sh, M, nx, zl) K := by
  have hNr := hT.1.1.1
  have hBr := hT.1.2.1.1
  obtain ⟨ta1, ta2, ta3, ta4, ta5⟩ := hT.2.1
  refine m47 [fx 8, ti F, fx 4] ?_
  refine node_Y hT hF (fun a f0 f1 f2 f3 f4 => ?_) (fun hF9 => ?_)
  · obtain ⟨hh, tt, hS, hE, hFF, -⟩ := id f4
    have kf := (hT.1.1.2 F f0 f1).1
    have e1 : M a 1 = M 171 F := hE.2.1
    refine ⟨_, hS.1, ?_⟩
    refine ⟨by omega, fun w => ?_, fun w => kB (fun z => by omega)⟩
    have w' : M 171 F = 2 := by omega
    have ff := hFF.1
    refine ⟨by omega, fun w2 => ?_, fun w2 => kF ⟨f0, f1, f2⟩ w' (by omega)⟩
    have ha := hS.2
    have hnd := tree_nodeP hT
    refine grow_Y ha hS.1 (by omega) hnd ff.1 ff.2.1 ff.2.2 hn.1 (by omega) (fun M2 hP => ?_)
    obtain ⟨low, ea⟩ := gw_low ha hnd hP
    have e4 : M2 4 = M 4 := by rw [low 4 (by omega) (by omega), gwM_o M a _ (by omega) (by omega) (by omega)]
    have e5 : M2 5 = M 5 := by rw [low 5 (by omega) (by omega), gwM_o M a _ (by omega) (by omega) (by omega)]
    have e41 : M2 4 1 = M 4 1 := by rw [e4]
    refine ⟨.byte, 16384, 65536, ⟨rfl, rfl⟩, by omega, ⟨trivial, by decide, by decide⟩, ?_⟩
    refine ⟨_, hS.1, ?_⟩
    obtain ⟨M3, g3⟩ : ∃ M3 : FM, M3 = um M2 10 (cpf (M2 5) (M2 10) 0 (M a 11 + M a 12) (M2 4 1)) := ⟨_, rfl⟩
    have z := kO ⟨f0, f1, f2⟩ w' (by omega) a M3 f3 ⟨M2, hP, fun c hc => by rw [g3, um_ne hc], fun j hj => ?_, fun j j0 j1 => ?_⟩
    · have e12 : M3 a 12 = M a 12 + M 4 1 := by rw [g3, um_ne (by omega), ea, gwM_a M a _ (by omega) (by omega), ur_at]
      rw [← e12, g3] at z
      exact z
    · rw [g3, um_at]
      unfold cpf
      rw [if_neg (by omega)]
    · rw [g3, um_at]
      unfold cpf
      rw [if_pos (by omega), e5]
      congr 2
      omega
  · exact kB (fun z => hF9 z.1)
theorem appendSame_Y {b n : Int} (hT : treeR sh M) (hF : -2147483648 ≤ F ∧ F ≤ 2147483647) (hb : -2147483648 ≤ b ∧ b ≤ 2147483647) (hn : -2147483648 ≤ n ∧ n ≤ 2147483647)
    (kB : ¬ (okN M F ∧ M 171 F = 2 ∧ (0 ≤ b ∧ b ≤ 255 ∧ 1 ≤ n ∧ n ≤ 16384)) → K (some (ti (-1))) (sh, M, nx, zl))
    (kF : okN M F → M 171 F = 2 → (0 ≤ b ∧ b ≤ 255 ∧ 1 ≤ n ∧ n ≤ 16384) → 65536 < M 9 1 + n → K (some (ti (-6))) (sh, M, nx, zl))
    (kO : okN M F → M 171 F = 2 → (0 ≤ b ∧ b ≤ 255 ∧ 1 ≤ n ∧ n ≤ 16384) → M 9 1 + n ≤ 65536 → ∀ (a : Nat) (M3 : FM), M 11 F = a → gwF M M3 a n (fun _ => b) → K (some (ti (M a 12 + n))) (sh, M3, nx, zl)) : fm_Y (d + 3) 50 [.ref 8, .int (Int32.ofInt F), .int (Int32.ofInt b), .int (Int32.ofInt n)] (sh, M, nx, zl) K := by
  have hNr := hT.1.1.1
  have hBr := hT.1.2.1.1
  obtain ⟨ta1, ta2, ta3, ta4, ta5⟩ := hT.2.1
  refine m50 [fx 8, ti F, ti b, ti n] ?_
  refine node_Y hT hF (fun a f0 f1 f2 f3 f4 => ?_) (fun hF9 => ?_)
  · obtain ⟨hh, tt, hS, hE, hFF, -⟩ := id f4
    have kf := (hT.1.1.2 F f0 f1).1
    have e1 : M a 1 = M 171 F := hE.2.1
    refine ⟨_, hS.1, ?_⟩
    refine ⟨by omega, fun w => kB (fun z => by omega), fun w => ?_⟩
    refine ⟨by omega, fun v1 => kB (fun z => by omega), fun v1 => ?_⟩
    refine ⟨by omega, fun v2 => kB (fun z => by omega), fun v2 => ?_⟩
    refine ⟨by omega, fun v3 => kB (fun z => by omega), fun v3 => ?_⟩
    refine ⟨by omega, fun v4 => ?_, fun v4 => kB (fun z => by omega)⟩
    have w' : M 171 F = 2 := by omega
    have ff := hFF.1
    refine ⟨by omega, fun w2 => ?_, fun w2 => kF ⟨f0, f1, f2⟩ w' (by omega) (by omega)⟩
    have ha := hS.2
    have hnd := tree_nodeP hT
    refine grow_Y ha hS.1 (by omega) hnd ff.1 ff.2.1 ff.2.2 (by omega) (by omega) (fun M2 hP => ?_)
    obtain ⟨low, ea⟩ := gw_low ha hnd hP
    have Lp : ∀ (N : Nat) (i : Int) (M3 : FM), (M a 11 + M a 12 + n - i).toNat < N → M a 11 + M a 12 ≤ i → i ≤ M a 11 + M a 12 + n → (∀ c : Nat, c ≠ 10 → M3 c = M2 c) → (∀ j : Int, (j < M a 11 + M a 12 ∨ M a 11 + M a 12 + n ≤ j) → M3 10 j = M2 10 j) → (∀ j : Int, M a 11 + M a 12 ≤ j → j < i → M3 10 j % 256 = b % 256) → fm_X (d + 2) kd50 76 [some (fx 8), some (ti F), some (ti b), some (ti n), some (gr a), some (ti (M a 11 + M a 12)), some (ti i)] [] (sh, M3, nx, zl) K := by
      intro N
      induction N with
      | zero => intro i M3 q1; omega
      | succ N ih =>
        intro i M3 q1 q2 q3 q4 q5 q6
        refine s50_76 (d + 2) K _ _ _ ?_
        refine ⟨by omega, fun w3 => ?_, fun w3 => ?_⟩
        · refine ⟨_, hS.1, ?_⟩
          have e12 : M3 a 12 = M a 12 + n := by rw [q4 a (by omega), ea, gwM_a M a _ (by omega) (by omega), ur_at]
          have z := kO ⟨f0, f1, f2⟩ w' (by omega) (by omega) a M3 f3 ⟨M2, hP, q4, q5, fun j j0 j1 => q6 _ (by omega) (by omega)⟩
          rw [← e12] at z
          exact z
        · refine ⟨by omega, ?_⟩
          refine ih (i + 1) _ (by omega) (by omega) (by omega) ?_ ?_ ?_
          · intro c hc
            rw [um_ne hc]
            exact q4 c hc
          · intro j hj
            rw [um_at, ur_ne (by omega)]
            exact q5 j hj
          · intro j j0 j1
            rw [um_at]
            by_cases e : j = i
            · rw [e, ur_at]
              omega
            · rw [ur_ne e]
              exact q6 j j0 (by omega)
    exact Lp (n.toNat + 1) _ M2 (by omega) (by omega) (by omega) (fun _ _ => rfl) (fun _ _ => rfl) (fun j j0 j1 => by omega)
  · exact kB (fun z => hF9 z.1)
end GROW
