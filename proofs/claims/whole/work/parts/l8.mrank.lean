/-! PACKING: symbols ranked; the reference -/
section MRANK
variable {d nx zl : Nat} {K : Option TV → FH → Prop} {sh : Nat → Option Shp} {M : FM}
theorem rankM_Y {n : Nat} {fr : Int} {c : Int → Int} (hn : n ≤ 288) (hfr : 0 ≤ fr ∧ fr + n ≤ 339) (hc : ∀ s : Int, 0 ≤ s → s < n → M 193 (fr + s) = c s ∧ 0 ≤ c s ∧ c s ≤ 100000) (k : ∀ M2 : FM, (∀ x : Nat, x ≠ 196 → M2 x = M x) → rkV (M2 196) (rkG c n) → K (some (ti (rkG c n).length)) (sh, M2, nx, zl)) : fm_Y (d + 1) 285 [.ref 168, .int (Int32.ofInt fr), .int (Int32.ofInt n)] (sh, M, nx, zl) K := by
  refine m285 [fx 168, ti fr, ti n] ?_
  have L4 : ∀ (G s : Nat) (si : Int) (M1 : FM) (y4 : Option TV), ((n : Int) - si).toNat < G → si = s → s ≤ n → (∀ x : Nat, x ≠ 196 → M1 x = M x) → rkV (M1 196) (rkG c s) → fm_X d kd285 5 [some (fx 168), some (ti fr), some (ti n), some (ti (rkG c s).length), some (ti si), y4] [] (sh, M1, nx, zl) K := by
    intro G
    induction G with
    | zero => intro s si M1 y4 q; omega
    | succ G ih =>
      intro s si M1 y4 q1 q2 q3 F1 hv
      obtain ⟨r1, r2, r3⟩ := rkG_p (c := c) s
      have ec : M1 193 = M 193 := F1 193 (by omega)
      refine s285_5 d K _ _ _ ?_
      refine ⟨by omega, fun w => ?_, fun w => ?_⟩
      · rw [show n = s by omega] at k
        exact k M1 F1 hv
      obtain ⟨v1, v2, v3⟩ := hc si (by omega) (by omega)
      have eG : rkG c (s + 1) = if 0 < c s then insR c s (rkG c s) else rkG c s := rfl
      rw [← q2] at eG
      refine ⟨by omega, ?_⟩
      rw [ec, v1]
      refine ⟨by omega, fun u => ?_, fun u => ?_⟩
      · rw [if_neg (by omega)] at eG
        have T := ih (s + 1) (si + 1) M1 y4 (by omega) (by omega) (by omega) F1 (by rw [eG]; exact hv)
        rw [eG] at T
        exact T
      rw [if_pos (by omega)] at eG
      -- a place for it
      have PUT : ∀ (kk : Nat) (ki : Int) (M3 : FM), ki = kk → kk ≤ (rkG c s).length → (∀ x : Nat, x ≠ 196 → M3 x = M x) → shV (M3 196) (rkG c s) kk → insR c si (rkG c s) = (rkG c s).take kk ++ si :: (rkG c s).drop kk → b285_81 d (fW d kd285 K) K [some (fx 168), some (ti fr), some (ti n), some (ti (rkG c s).length), some (ti si), some (ti ki)] [] (sh, M3, nx, zl) := by
        intro kk ki M3 p1 p2 F3 hsv eI
        refine ⟨by omega, ?_⟩
        obtain ⟨P, gP⟩ : ∃ P : FM, P = pq M3 196 ki si := ⟨_, rfl⟩
        have T := ih (s + 1) (si + 1) P (some (ti ki)) (by omega) (by omega) (by omega) (fun x hx => by rw [gP, pq_o _ _ _ hx]; exact F3 x hx) (by
          rw [eG, eI, gP]
          unfold pq
          rw [um_at, p1]
          exact shV_put hsv p2)
        rw [eG, insR_len, gP] at T
        rw [show (((rkG c s).length + 1 : Nat) : Int) = ((rkG c s).length : Int) + 1 by omega] at T
        exact T
      have L19 : ∀ (kk : Nat) (ki : Int) (M3 : FM), ki = kk → kk ≤ (rkG c s).length → (∀ x : Nat, x ≠ 196 → M3 x = M x) → shV (M3 196) (rkG c s) kk → (∀ (i : Nat) (x : Int), (rkG c s)[i]? = some x → kk ≤ i → c si < c x) → fm_X d kd285 26 [some (fx 168), some (ti fr), some (ti n), some (ti (rkG c s).length), some (ti si), some (ti ki)] [] (sh, M3, nx, zl) K := by
        intro kk
        induction kk with
        | zero =>
          intro ki M3 p1 p2 F3 hsv hgt
          refine s285_26 d K _ _ _ ?_
          exact ⟨by omega, fun _ => PUT 0 ki M3 p1 p2 F3 hsv (insR_eq (c := c) (s := si) (rkG c s) 0 p2 (fun i x _ hi => by omega) hgt), fun z => by omega⟩
        | succ kk ih2 =>
          intro ki M3 p1 p2 F3 hsv hgt
          have ec3 : M3 193 = M 193 := F3 193 (by omega)
          obtain ⟨x, hx⟩ : ∃ x : Int, (rkG c s)[kk]? = some x := ⟨_, List.getElem?_eq_getElem (by omega)⟩
          have xr := r3 x (List.mem_of_getElem? hx)
          have ax : M3 196 (ki - 1) = x := by
            have := (hsv kk x hx).1 (by omega)
            rw [show ki - 1 = (kk : Int) by omega]
            exact this
          obtain ⟨w1, w2, w3⟩ := hc x (by omega) (by omega)
          refine s285_26 d K _ _ _ ?_
          refine ⟨by omega, fun z => by omega, fun _ => ?_⟩
          refine ⟨by omega, ?_⟩
          rw [ax]
          refine ⟨by omega, ?_⟩
          refine ⟨by omega, ?_⟩
          rw [ec3, w1, v1]
          refine ⟨by omega, fun z => ?_, fun z => ?_⟩
          · exact PUT (kk + 1) ki M3 p1 p2 F3 hsv (insR_eq (c := c) (s := si) (rkG c s) (kk + 1) p2 (fun i y hy hi => by
              have := r2 i kk y x (by omega) hy hx
              omega) hgt)
          · refine ⟨by omega, ?_⟩
            refine ⟨by omega, ?_⟩
            obtain ⟨P, gP⟩ : ∃ P : FM, P = pq M3 196 ki (M3 196 (ki - 1)) := ⟨_, rfl⟩
            have T : fm_X d kd285 26 [some (fx 168), some (ti fr), some (ti n), some (ti (rkG c s).length), some (ti si), some (ti (ki + -1))] [] (sh, P, nx, zl) K := by
              refine ih2 (ki + -1) P (by omega) (by omega) (fun x hx => by rw [gP, pq_o _ _ _ hx]; exact F3 x hx) ?_ (fun i y hy hi => ?_)
              · rw [gP]
                unfold pq
                rw [um_at, show ki - 1 = (kk : Int) by omega, show ki = (kk : Int) + 1 by omega]
                exact shV_mv hsv
              · by_cases e : i = kk
                · rw [e, hx] at hy
                  injection hy with hy
                  rw [← hy]
                  omega
                · exact hgt i y hy (by omega)
            rw [gP] at T
            exact T
      refine L19 (rkG c s).length (rkG c s).length M1 rfl (Nat.le_refl _) F1 (fun i x hx => ⟨fun _ => hv i x hx, fun z => ?_⟩) (fun i x hx hi => ?_)
      · have := List.getElem?_eq_none (l := rkG c s) (i := i) z
        rw [hx] at this
        cases this
      · have := List.getElem?_eq_none (l := rkG c s) (i := i) hi
        rw [hx] at this
        cases this
  exact L4 _ 0 0 M _ (Nat.lt_succ_self _) rfl (by omega) (fun _ _ => rfl) (fun i x hx => by cases hx)
end MRANK
