/-! COUNTING STRAYS: the reference, a node -/
section MTOLD
variable {d nx zl : Nat} {K : Option TV → FH → Prop} {sh : Nat → Option Shp} {M : FM} {f : Int → Int} {s : Int}
theorem ownerOf_Y {p q : Int} (hm : mtM M f s) (e : p = q) (hq : 0 ≤ q ∧ q + 2 ≤ (rwR (qI f)).length) (hid : le (lf (rwR (qI f))) q 2 < le f 26 2) (hids : le f 26 2 ≤ 4096) (k : K (some (tj (le (lf (rwR (qD f))) (4 * le (lf (rwR (qI f))) q 2) 4))) (sh, M, nx, zl)) : fm_Y (d + 4) 378 [.ref 168, .int (Int32.ofInt p)] (sh, M, nx, zl) K := by
  refine m378 [fx 168, ti p] ?_
  refine v2_Y (d := d + 1) q hm.1.1.1.1 e hq (fun l => ?_)
  exact n4_Y (rr254 sh).1.2.1 (by omega) hm.2.1 (by omega) (by omega) (fun _ => k)
theorem isTold_Y {x j : Int} {L : List Int} (hs : s ≤ 131072) (hO : ftO f s) (hm : mtM M f s) (hW : twR M) (hx : 0 ≤ x ∧ x < M 168 5) (hj : 1 ≤ j ∧ j ≤ le f 4 4) (hk : kdQ f j = M 171 x) (hnu : ∀ t : Nat, t < ec M x → M 214 (M 184 (fe M x + t)) = nuO L (M 184 (fe M x + t)) ∧ 0 ≤ nuO L (M 184 (fe M x + t)) ∧ nuO L (M 184 (fe M x + t)) ≤ 2000) (hab : M 171 x = 1 → (if j = rof f then rof f else paF (lf (rwR (qI f))) (plf f) j) = if x = 0 then j else M 214 (M 178 x)) (h214 : M 171 x = 1 → 0 < x → 0 ≤ M 214 (M 178 x) ∧ M 214 (M 178 x) ≤ 2000)
    (k : ∀ (M2 : FM) (z : Int), raX M M2 → (z = 1 ∧ toQ f M L x j ∨ z = 0 ∧ ¬ toQ f M L x j) → K (some (ti z)) (sh, M2, nx, zl)) : fm_Y (d + 8) 377 [.ref 168, .int (Int32.ofInt x), .int (Int32.ofInt j)] (sh, M, nx, zl) K := by
  have hL := hm.1.1
  have nN := hW.1.1
  have hB := hL.1.1.2.1
  have n65 := hL.1.1.1.2.2.2
  have agI := hL.1.1.1.2.1
  have hv := hL.2.1
  obtain ⟨ap, hd0⟩ := nd_ok hB.2.1 hv hj.1 hj.2
  have hT := hd0.2.1
  have h16 := hd0.1
  have hf := hd0.2.2.1
  have hu1 := hd0.2.2.2.2.1
  have hu2 := hd0.2.2.2.2.2
  have fg2 := fx_ge hT
  obtain ⟨-, sn, sF, sI, -⟩ := su_B hO.1
  obtain ⟨k1, p178, t172, t173, t174, t175, t176⟩ := hW.1.2 x hx.1 hx.2
  obtain ⟨b0, b2, b3⟩ := hW.2.1.2 x hx.1 hx.2
  have bb := hW.2.1.1
  have n20 := hW.2.2.2.1.1
  have tc := (hW.2.2.2.2.2.2 x hx.1 hx.2).1
  have tcr := cnt_nn (M 184) x (M 168 20).toNat
  have kp : kdT (le (lf (rwR (qI f))) (plf f j) 2) = M 171 x := hk
  have l2 := le_nn (lf (rwR (qI f))) 2 (plf f j + 2)
  have l2' := le_lt2 (lf (rwR (qI f))) (plf f j + 2)
  have s2 := s32_r (le (lf (rwR (qD f))) (4 * le (lf (rwR (qI f))) (plf f j + 4) 2) 4)
  have s3 := s32_r (le (lf (rwR (qD f))) (4 * le (lf (rwR (qI f))) (plf f j + 6) 2) 4)
  have s4 := s32_r (le (lf (rwR (qI f))) (plf f j + 8) 4)
  have s7 := s32_r (le (lf (rwR (qI f))) (plf f j + 20) 4)
  have l20 := le_nn (lf (rwR (qI f))) 4 (plf f j + 20)
  have l20' := le_lt4 (lf (rwR (qI f))) (plf f j + 20)
  have h45 : M 171 x = 4 ∨ M 171 x = 5 → plf f j + 24 ≤ (rwR (qI f)).length := fun hd => by
    have : 24 ≤ fxT (le (lf (rwR (qI f))) (plf f j) 2) := by
      rw [← kp] at hd
      unfold kdT at hd
      unfold fxT
      split at hd
      · repeat' split
        all_goals omega
      · repeat' split
        all_goals omega
    omega
  have YES : ∀ M2 : FM, raX M M2 → toQ f M L x j → K (some (ti 1)) (sh, M2, nx, zl) := fun M2 f2 h => k M2 1 f2 (Or.inl ⟨rfl, h⟩)
  have NO : ∀ M2 : FM, raX M M2 → ¬ toQ f M L x j → K (some (ti 0)) (sh, M2, nx, zl) := fun M2 f2 h => k M2 0 f2 (Or.inr ⟨rfl, h⟩)
  have B101 : ¬ toQ f M L x j → n377_101 (d + 7) (fW (d + 7) kd377 K) K [some (fx 168), some (ti x), some (ti j), some (ti (plf f j)), some (ti (M 171 x)), none, none] [] (sh, M, nx, zl) := fun h => ⟨by omega, fun w => absurd rfl w, fun _ => ⟨Or.inl rfl, NO M (raX_r M) h⟩⟩
  -- a device, or nothing more
  have B279 : ∀ (e : Int) (y6 : Option TV), M 171 x ≠ 1 → M 171 x ≠ 2 → (e = 1 ∧ (M 171 x = 3 ∨ tlC (lf (rwR (qI f))) (lf (rwR (qD f))) M (plf f j) x ∧ lnK (lf (rwR (qI f))) (plf f j) = M 177 x) ∧ (M 171 x = 3 → toQ f M L x j) ∨ e = 0 ∧ M 171 x = 3 ∧ ¬ toQ f M L x j) → n377_279 (d + 7) (fW (d + 7) kd377 K) K [some (fx 168), some (ti x), some (ti j), some (ti (plf f j)), some (ti (M 171 x)), some (ti e), y6] [] (sh, M, nx, zl) := by
    intro e y6 n1 n2 he
    have DEV : (M 171 x = 4 ∨ M 171 x = 5) → n377_291 (d + 7) (fW (d + 7) kd377 K) K [some (fx 168), some (ti x), some (ti j), some (ti (plf f j)), some (ti (M 171 x)), some (ti e), y6] [] (sh, M, nx, zl) := by
      intro hd
      have hd24 := h45 hd
      have nd3 : M 171 x ≠ 3 := by omega
      have T0 : tlC (lf (rwR (qI f))) (lf (rwR (qD f))) M (plf f j) x ∧ lnK (lf (rwR (qI f))) (plf f j) = M 177 x := by
        rcases he with ⟨-, q | q, -⟩ | ⟨-, q, -⟩
        · exact absurd q nd3
        · exact q
        · exact absurd q nd3
      refine v4_Y (d := d + 5) (plf f j + 20) hL.1.1 rfl (by omega) (fun l => ?_)
      refine ⟨by omega, ?_⟩
      refine ⟨by omega, fun w => ⟨Or.inl rfl, NO M (raX_r M) (fun q => w (q.1.2.2 hd))⟩, fun w => ⟨Or.inr rfl, YES M (raX_r M) ?_⟩⟩
      exact ⟨⟨T0.1, by rw [if_neg n1]; exact T0.2, fun _ => w⟩, fun q => absurd q n1, fun q => absurd q n2, fun q => absurd q nd3⟩
    refine ⟨by omega, fun w => DEV (Or.inl w), fun w4 => ?_⟩
    refine ⟨by omega, fun w5 => ?_, fun w => DEV (Or.inr w)⟩
    rcases he with ⟨q1, q2, q3⟩ | ⟨q1, q2, q3⟩
    · rw [q1]
      refine ⟨Or.inr rfl, YES M (raX_r M) ?_⟩
      by_cases c3 : M 171 x = 3
      · exact q3 c3
      · rcases q2 with q | q
        · exact absurd q c3
        · exact ⟨⟨q.1, by rw [if_neg n1]; exact q.2, fun c => by omega⟩, fun c => absurd c n1, fun c => absurd c n2, fun c => absurd c c3⟩
    · rw [q1]
      exact ⟨Or.inl rfl, NO M (raX_r M) q3⟩
  -- a link's bytes
  have LOOP : M 171 x = 3 → tlC (lf (rwR (qI f))) (lf (rwR (qD f))) M (plf f j) x ∧ lnK (lf (rwR (qI f))) (plf f j) = M 177 x → ∀ (N i : Nat) (e : Int), (M 180 x - i).toNat < N → (i : Int) ≤ M 180 x → (e = 1 ∧ (le (lf (rwR (qI f))) (plf f j + 20) 4 = M 180 x ∧ ∀ y : Int, 0 ≤ y → y < i → (lf (rwR (qI f))) (plf f j + 24 + y) % 256 = M 182 (M 179 x + y) % 256) ∨ e = 0 ∧ ¬ (le (lf (rwR (qI f))) (plf f j + 20) 4 = M 180 x ∧ ∀ y : Int, 0 ≤ y → y < i → (lf (rwR (qI f))) (plf f j + 24 + y) % 256 = M 182 (M 179 x + y) % 256)) → fm_X (d + 7) kd377 218 [some (fx 168), some (ti x), some (ti j), some (ti (plf f j)), some (ti (M 171 x)), some (ti e), some (ti i)] [] (sh, M, nx, zl) K := by
    intro c3 T0 N
    have lk := lk_ok hB.2.1 hv hj.1 hj.2 (kp.trans c3)
    have b3' := b3 c3
    induction N with
    | zero =>
      intro i e hN
      omega
    | succ N ih =>
      intro i e hN hi he
      refine r377_218 (d + 7) K _ _ _ ?_
      refine ⟨by omega, ?_⟩
      have NOT : (e = 0 ∧ ¬ (le (lf (rwR (qI f))) (plf f j + 20) 4 = M 180 x ∧ ∀ y : Int, 0 ≤ y → y < i → (lf (rwR (qI f))) (plf f j + 24 + y) % 256 = M 182 (M 179 x + y) % 256)) → ¬ toQ f M L x j := fun h q => by
        have q3 := q.2.2.2 c3
        exact h.2 ⟨q3.1, fun y y0 y1 => q3.2 y y0 (by omega)⟩
      refine ⟨by omega, fun w => ?_, fun w => ?_⟩
      · have ei : (i : Int) = M 180 x := by omega
        refine B279 e _ (by omega) (by omega) ?_
        rcases he with ⟨q1, q2⟩ | ⟨q1, q2⟩
        · refine Or.inl ⟨q1, Or.inl c3, fun _ => ?_⟩
          rw [ei] at q2
          exact ⟨⟨T0.1, by rw [if_neg (by omega)]; exact T0.2, fun c => by omega⟩, fun c => by omega, fun c => by omega, fun _ => q2⟩
        · exact Or.inr ⟨q1, c3, NOT ⟨q1, q2⟩⟩
      · refine ⟨by omega, fun w2 => ?_, fun w2 => ?_⟩
        · refine B279 e _ (by omega) (by omega) ?_
          rcases he with ⟨q1, q2⟩ | ⟨q1, q2⟩
          · omega
          · exact Or.inr ⟨q1, c3, NOT ⟨q1, q2⟩⟩
        have hq : le (lf (rwR (qI f))) (plf f j + 20) 4 = M 180 x ∧ ∀ y : Int, 0 ≤ y → y < i → (lf (rwR (qI f))) (plf f j + 24 + y) % 256 = M 182 (M 179 x + y) % 256 := by
          rcases he with ⟨q1, q2⟩ | ⟨q1, q2⟩
          · exact q2
          · omega
        have aq := agI (plf f j + 24 + i) (by omega) (by omega)
        have NX : ∀ e2 : Int, (e2 = 1 ∧ (lf (rwR (qI f))) (plf f j + 24 + i) % 256 = M 182 (M 179 x + i) % 256 ∨ e2 = 0 ∧ ¬ ((lf (rwR (qI f))) (plf f j + 24 + i) % 256 = M 182 (M 179 x + i) % 256)) → n377_271 (d + 7) (fW (d + 7) kd377 K) K [some (fx 168), some (ti x), some (ti j), some (ti (plf f j)), some (ti (M 171 x)), some (ti e), some (ti i)] [ti e2] (sh, M, nx, zl) := by
          intro e2 he2
          have F := ih (i + 1) e2 (by omega) (by omega) ?_
          · rw [show ((i + 1 : Nat) : Int) = (i : Int) + 1 by omega] at F
            exact F
          · rcases he2 with ⟨q1, q2⟩ | ⟨q1, q2⟩
            · refine Or.inl ⟨q1, hq.1, fun y y0 y1 => ?_⟩
              by_cases c : y = i
              · rw [c]
                exact q2
              · exact hq.2 y y0 (by omega)
            · exact Or.inr ⟨q1, fun q => q2 (q.2 i (by omega) (by omega))⟩
        refine ⟨by omega, ?_⟩
        refine ⟨by omega, ?_⟩
        refine ⟨by omega, ?_⟩
        refine ⟨by omega, fun w3 => NX 0 (Or.inr ⟨rfl, fun q => w3 ?_⟩), fun w3 => NX 1 (Or.inl ⟨rfl, ?_⟩)⟩
        · omega
        · omega
  -- what all tell is told
  have C102 : tlC (lf (rwR (qI f))) (lf (rwR (qD f))) M (plf f j) x → n377_102 (d + 7) (fW (d + 7) kd377 K) K [some (fx 168), some (ti x), some (ti j), some (ti (plf f j)), some (ti (M 171 x)), none, none] [ti 1] (sh, M, nx, zl) := by
    intro T0
    refine ⟨by omega, fun _ => ?_, fun w => by omega⟩
    refine ⟨by omega, fun n1 => ?_, fun w1 => ?_⟩
    · refine linksOf_Y (d := d + 3) hL hj (fun lk => ?_)
      refine ⟨by omega, ?_⟩
      refine ⟨by omega, ?_⟩
      refine ⟨by omega, fun wl => ?_, fun wl => ⟨Or.inl rfl, NO M (raX_r M) (fun q => wl ?_)⟩⟩
      · refine ⟨by omega, fun n2 => ?_, fun w2 => ?_⟩
        · refine ⟨by omega, fun n3 => ?_, fun w3 => ?_⟩
          · exact B279 1 _ n1 n2 (Or.inl ⟨rfl, Or.inr ⟨T0, wl⟩, fun c => absurd c n3⟩)
          · have lk3 := lk_ok hB.2.1 hv hj.1 hj.2 (kp.trans w3)
            refine v4_Y (d := d + 5) (plf f j + 20) hL.1.1 rfl (by omega) (fun l => ?_)
            refine ⟨by omega, ?_⟩
            refine ⟨by omega, ?_⟩
            refine ⟨by omega, fun w4 => ?_, fun w4 => ?_⟩
            · exact LOOP w3 ⟨T0, wl⟩ ((M 180 x - (0 : Nat)).toNat + 1) 0 0 (by omega) (by omega) (Or.inr ⟨rfl, fun q => w4 q.1⟩)
            · exact LOOP w3 ⟨T0, wl⟩ ((M 180 x - (0 : Nat)).toNat + 1) 0 1 (by omega) (by omega) (Or.inl ⟨rfl, w4, fun y y0 y1 => by omega⟩)
        · have kq : kdT (le (lf (rwR (qI f))) (plf f j) 2) = 2 := kp.trans w2
          have b2' := b2 w2
          have zz := (fl_ok hB.2.1 hv hj.1 hj.2 kq).1.1
          refine openFile_Y (d := d + 3) hL hj kq (fun M2 F2 hv2 => ?_)
          have e124 : M2 168 124 = fSz (lf (rwR (qI f))) (plf f j) := hv2.1.1
          have e180 : M2 180 x = M 180 x := by rw [F2.1 180 (by omega)]
          have e179 : M2 179 x = M 179 x := by rw [F2.1 179 (by omega)]
          have e181 : M2 181 = M 181 := F2.1 181 (by omega)
          refine ⟨by omega, ?_⟩
          refine ⟨by omega, ?_⟩
          refine ⟨by omega, fun w4 => ⟨Or.inl rfl, NO M2 (raX_o F2) (fun q => w4 ?_)⟩, fun w4 => ?_⟩
          · rw [e124, e180]
            exact (q.2.2.1 w2).1
          · have DT := hO.2.2.2.2.2.2.2
            have m2 := raX_w (raX_o F2) hm
            refine areBytes_Y (d := d) m2.1 DT.2.1 hj kq (DT.2.2 j hj.1 hj.2 kq) hv2 (by omega) (by omega) (by omega) (fun M3 z F3 hz => ?_)
            have f3 := raX_t (raX_o F2) (raX_b F3)
            rw [e180, e179, e181] at hz
            rcases hz with ⟨z1, z2⟩ | ⟨z1, z2⟩
            · rw [z1]
              refine ⟨by omega, fun w => by omega, fun _ => ⟨Or.inr rfl, YES M3 f3 ?_⟩⟩
              exact ⟨⟨T0, by rw [if_neg n1]; exact wl, fun c => by omega⟩, fun c => absurd c n1, fun _ => ⟨by omega, z2⟩, fun c => by omega⟩
            · rw [z1]
              exact ⟨by omega, fun _ => ⟨Or.inl rfl, NO M3 f3 (fun q => z2 (q.2.2.1 w2).2)⟩, fun w => absurd rfl w⟩
      · have := q.1.2.1
        rw [if_neg n1] at this
        exact this
    · refine isFolder_Y (d := d + 1) (L := L) hs hO hm hW hx hj (hk.trans w1) hnu (hab w1) (fun q => by have := p178 q; omega) (h214 w1) (fun M2 z f2 hz => ?_)
      rcases hz with ⟨z1, q1, q2⟩ | ⟨z1, q⟩
      · rw [z1]
        exact ⟨Or.inr rfl, YES M2 f2 ⟨⟨T0, by rw [if_pos w1]; exact q1, fun c => by omega⟩, fun _ => q2, fun c => by omega, fun c => by omega⟩⟩
      · rw [z1]
        refine ⟨Or.inl rfl, NO M2 f2 (fun t => q ⟨?_, t.2.1 w1⟩)⟩
        have := t.1.2.1
        rw [if_pos w1] at this
        exact this
  refine mn377 [fx 168, ti x, ti j] ?_
  refine whereIs_Y (d := d + 6) hL hj ?_
  refine ⟨by omega, ?_⟩
  refine kindAt_Y (d := d + 3) hL.1.1 (by omega) hT ?_
  rw [kp]
  refine ⟨by omega, fun w => absurd rfl w, fun _ => ?_⟩
  refine v2_Y (d := d + 5) (plf f j + 2) hL.1.1 rfl (by omega) (fun l => ?_)
  refine ⟨by omega, ?_⟩
  refine ⟨by omega, ?_⟩
  refine ⟨by omega, fun w => B101 (fun q => w q.1.1.1), fun w1 => ?_⟩
  refine ownerOf_Y (d := d + 3) (q := plf f j + 4) hm rfl (by omega) hu1 (by omega) ?_
  refine ⟨by omega, ?_⟩
  refine ⟨by omega, fun w => B101 (fun q => w q.1.1.2.1), fun w2 => ?_⟩
  refine ownerOf_Y (d := d + 3) (q := plf f j + 6) hm rfl (by omega) hu2 (by omega) ?_
  refine ⟨by omega, ?_⟩
  refine ⟨by omega, fun w => B101 (fun q => w q.1.1.2.2.1), fun w3 => ?_⟩
  refine v4_Y (d := d + 5) (plf f j + 8) hL.1.1 rfl (by omega) (fun l => ?_)
  refine ⟨by omega, ?_⟩
  refine ⟨by omega, fun w => B101 (fun q => w q.1.1.2.2.2), fun w4 => ?_⟩
  exact C102 ⟨w1, w2, w3, w4⟩
end MTOLD
