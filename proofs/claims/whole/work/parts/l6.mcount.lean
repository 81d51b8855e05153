/-! PACKING: tokens are counted; the reference -/
def cnA (T : List (Int × Int)) (x : Int) : Int := if x < 288 then cyS T x else if x < 320 then cdN T (x - 288) else 0
section MCOUNT
variable {d nx zl : Nat} {K : Option TV → FH → Prop} {sh : Nat → Option Shp} {M : FM}
theorem countTokens_Y {T : List (Int × Int)} (hl : M 168 31 = T.length) (hT : T.length ≤ 4096) (hv : tkV (M 191) (M 192) T) (hok : ∀ t ∈ T, tkOK t) (k : ∀ M2 : FM, (∀ x : Nat, x ≠ 193 → M2 x = M x) → (∀ x : Int, 0 ≤ x → x < 339 → M2 193 x = cnA T x) → K none (sh, M2, nx, zl)) : fm_Y (d + 4) 277 [.ref 168] (sh, M, nx, zl) K := by
  refine m277 [fx 168] ?_
  have L2 : ∀ (r pre : List (Int × Int)) (i : Int) (M1 : FM), T = pre ++ r → i = pre.length → (∀ x : Nat, x ≠ 193 → M1 x = M x) → (∀ x : Int, 0 ≤ x → x < 339 → M1 193 x = cnA pre x) → fm_X (d + 3) kd277 33 [some (fx 168), some (ti i)] [] (sh, M1, nx, zl) K := by
    intro r
    induction r with
    | nil =>
      intro pre i M1 h1 h2 F1 h3
      rw [List.append_nil] at h1
      have hTl : pre.length ≤ 4096 := by rw [← h1]; exact hT
      have e31 : M1 168 31 = T.length := by rw [F1 168 (by omega)]; exact hl
      refine s277_33 (d + 3) K _ _ _ ?_
      refine ⟨by omega, fun _ => k M1 F1 (by rw [h1]; exact h3), fun q => ?_⟩
      rw [e31, h1] at q
      omega
    | cons t r ih =>
      intro pre i M1 h1 h2 F1 h3
      have e31 : M1 168 31 = T.length := by rw [F1 168 (by omega)]; exact hl
      have hlen : i < T.length := by
        rw [h1, h2]
        simp only [List.length_append, List.length_cons]
        omega
      have hget : T[pre.length]? = some t := by
        rw [h1]
        simp
      obtain ⟨v1, v2⟩ := hv pre.length t hget
      have m191 : M1 191 i = t.1 := by rw [F1 191 (by omega), h2]; exact v1
      have m192 : M1 192 i = t.2 := by rw [F1 192 (by omega), h2]; exact v2
      have ok := hok t (by rw [h1]; simp)
      have h1' : T = (pre ++ [t]) ++ r := by rw [h1, List.append_assoc]; rfl
      have h2' : i + 1 = ((pre ++ [t]).length : Nat) := by
        simp only [List.length_append, List.length_cons, List.length_nil]
        omega
      refine s277_33 (d + 3) K _ _ _ ?_
      refine ⟨by omega, fun q => by omega, fun _ => ?_⟩
      refine ⟨by omega, ?_⟩
      rw [m191]
      unfold tkOK at ok
      refine ⟨by omega, fun u => ?_, fun u => ?_⟩
      · -- a match
        refine ⟨by omega, ?_⟩
        rw [m191]
        refine mlenSym_Y (by omega) ?_
        have lr := lnY_r (n := t.1) (by omega)
        have dr := dsY_r (x := t.2) (by omega)
        refine ⟨by omega, ?_⟩
        refine ⟨by omega, ?_⟩
        obtain ⟨P1, g1⟩ : ∃ P1 : FM, P1 = pq M1 193 (lnY t.1) (M1 193 (lnY t.1) + 1) := ⟨_, rfl⟩
        have o1 : ∀ x : Nat, x ≠ 193 → P1 x = M1 x := fun x hx => by rw [g1, pq_o _ _ _ hx]
        have T1 : (o_al 0 (o_get 12 34 34 (o_ic 288 (o_al 0 (b277_94 (d + 3) (fW (d + 3) kd277 K) K)))) : FC) [some (fx 168), some (ti i)] [] (sh, P1, nx, zl) := by
          refine ⟨by omega, ?_⟩
          rw [o1 192 (by omega), m192]
          refine mdisSym_Y (by omega) ?_
          refine ⟨by omega, ?_⟩
          refine ⟨by omega, ?_⟩
          obtain ⟨P2, g2⟩ : ∃ P2 : FM, P2 = pq P1 193 (288 + dsY t.2) (P1 193 (288 + dsY t.2) + 1) := ⟨_, rfl⟩
          have TL : fm_X (d + 3) kd277 33 [some (fx 168), some (ti (i + 1))] [] (sh, P2, nx, zl) K := by
            refine ih (pre ++ [t]) (i + 1) P2 h1' h2' (fun x hx => by rw [g2, pq_o _ _ _ hx, o1 x hx]; exact F1 x hx) (fun x x0 x1 => ?_)
            have b0 := h3 x x0 x1
            have ey : tkY t = lnY t.1 := if_neg u
            unfold cnA cyS at b0 ⊢
            rw [cyN_add, cdN_add, ey]
            by_cases c1 : x = lnY t.1
            · rw [if_pos (by omega)] at b0 ⊢
              rw [g2, pq_ne _ _ _ _ (by omega), g1, c1, pq_at, ← c1, b0, if_pos rfl]
              omega
            · by_cases c2 : x = 288 + dsY t.2
              · rw [if_neg (by omega), if_pos (by omega)] at b0 ⊢
                rw [g2, c2, pq_at, g1, pq_ne _ _ _ _ (by omega), ← c2, b0, if_pos ⟨u, by omega⟩]
              · rw [g2, pq_ne _ _ _ _ c2, g1, pq_ne _ _ _ _ c1, b0]
                by_cases c3 : x < 288
                · rw [if_pos c3, if_pos c3, if_neg (show ¬ lnY t.1 = x from fun z => c1 z.symm)]
                  omega
                · rw [if_neg c3, if_neg c3, if_neg (show ¬ (t.1 ≠ 0 ∧ dsY t.2 = x - 288) by omega)]
                  split <;> omega
          rw [g2] at TL
          exact TL
        rw [g1] at T1
        exact T1
      · -- a byte
        refine ⟨by omega, ?_⟩
        rw [m192]
        refine ⟨by omega, ?_⟩
        refine ⟨by omega, ?_⟩
        obtain ⟨P1, g1⟩ : ∃ P1 : FM, P1 = pq M1 193 t.2 (M1 193 t.2 + 1) := ⟨_, rfl⟩
        have TL : fm_X (d + 3) kd277 33 [some (fx 168), some (ti (i + 1))] [] (sh, P1, nx, zl) K := by
          refine ih (pre ++ [t]) (i + 1) P1 h1' h2' (fun x hx => by rw [g1, pq_o _ _ _ hx]; exact F1 x hx) (fun x x0 x1 => ?_)
          have b0 := h3 x x0 x1
          have ey : tkY t = t.2 := if_pos (by omega)
          unfold cnA cyS at b0 ⊢
          rw [cyN_add, cdN_add, ey, if_neg (show ¬ (t.1 ≠ 0 ∧ dsY t.2 = x - 288) by omega)]
          by_cases c1 : x = t.2
          · rw [if_pos (by omega)] at b0 ⊢
            rw [g1, c1, pq_at, ← c1, b0, if_pos rfl]
            omega
          · rw [g1, pq_ne _ _ _ _ c1, b0, if_neg (show ¬ t.2 = x from fun z => c1 z.symm)]
            split
            · omega
            · split <;> omega
        rw [g1] at TL
        exact TL
  have L1 : ∀ (G : Nat) (i : Int) (M1 : FM), (339 - i).toNat < G → 0 ≤ i → i ≤ 339 → (∀ x : Nat, x ≠ 193 → M1 x = M x) → (∀ x : Int, 0 ≤ x → x < i → M1 193 x = 0) → fm_X (d + 3) kd277 2 [some (fx 168), some (ti i)] [] (sh, M1, nx, zl) K := by
    intro G
    induction G with
    | zero => intro i M1 q; omega
    | succ G ih =>
      intro i M1 q1 q2 q3 F1 z1
      refine s277_2 (d + 3) K _ _ _ ?_
      refine ⟨by omega, fun w => ?_, fun w => ?_⟩
      · refine ⟨by omega, ?_⟩
        obtain ⟨P, gP⟩ : ∃ P : FM, P = pq M1 193 256 1 := ⟨_, rfl⟩
        have TL : fm_X (d + 3) kd277 33 [some (fx 168), some (ti 0)] [] (sh, P, nx, zl) K := by
          refine L2 T [] 0 P rfl rfl (fun x hx => by rw [gP, pq_o _ _ _ hx]; exact F1 x hx) (fun x x0 x1 => ?_)
          have e1 : cyN [] x = 0 := rfl
          have e2 : cdN [] (x - 288) = 0 := rfl
          unfold cnA cyS
          rw [e1, e2]
          by_cases c : x = 256
          · rw [c, gP, pq_at]
            rfl
          · rw [gP, pq_ne _ _ _ _ c, z1 x x0 (by omega), if_neg c]
            split
            · rfl
            · split <;> rfl
        rw [gP] at TL
        exact TL
      · refine ⟨by omega, ?_⟩
        obtain ⟨P, gP⟩ : ∃ P : FM, P = pq M1 193 i 0 := ⟨_, rfl⟩
        have TL : fm_X (d + 3) kd277 2 [some (fx 168), some (ti (i + 1))] [] (sh, P, nx, zl) K := by
          refine ih (i + 1) P (by omega) (by omega) (by omega) (fun x hx => by rw [gP, pq_o _ _ _ hx]; exact F1 x hx) (fun j j0 j1 => ?_)
          by_cases e : j = i
          · rw [e, gP, pq_at]
          · rw [gP, pq_ne _ _ _ _ e]
            exact z1 j j0 (by omega)
        rw [gP] at TL
        exact TL
  exact L1 _ 0 M (Nat.lt_succ_self _) (by omega) (by omega) (fun _ _ => rfl) (fun x x0 x1 => by omega)
end MCOUNT
