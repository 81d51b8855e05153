/-! UNPACKING, the reference: make -/
def inI (ls : Int → Int) (l s : Nat) (x : Nat) : Prop := (1 ≤ ls x ∧ ls x < l) ∨ (ls x = l ∧ x < s)
theorem tnV_I {T A : Int → Int} {D : Int → Nat} {N U Lc : Int} {ls : Int → Int} {n : Nat} {I I2 : Nat → Prop} (h : tnV T A D N U ls n I Lc) (hi : ∀ x : Nat, x < n → I2 x → I x) : tnV T A D N U ls n I2 Lc := ⟨h.1, h.2.1, h.2.2.1, h.2.2.2.1, fun s hs hx => h.2.2.2.2.1 s hs (hi s hs hx), h.2.2.2.2.2⟩
section VMAKE
variable {d nx zl : Nat} {K : Option TV → FH → Prop} {sh : Nat → Option Shp} {M : FM} {tr ct fr nF n : Nat} {at0 z : Int} {ls : Int → Int}
theorem tn_0 {T : Int → Int} (h0 : T 0 = 0) (h1 : T 1 = 0) (ls : Int → Int) (n : Nat) {I : Nat → Prop} (hI : ∀ x, ¬ I x) : tnV T (fun _ => 0) (fun _ => 0) 1 0 ls n I 0 := by
  refine ⟨⟨⟨by omega, rfl, rfl⟩, fun m _ _ => ⟨Nat.zero_le 14, Int.le_refl 0, Int.le_refl 0, mlt_0 _⟩⟩, fun m m2 a b c e _ _ => by omega, fun m b m0 m1 b0 b1 => ?_, fun m m0 m1 => by omega, fun s _ hi => absurd hi (hI s), ?_⟩
  · have em : m = 0 := by omega
    have hz : T (2 * m + b) = 0 := by
      have e : b = 0 ∨ b = 1 := by omega
      rcases e with e | e
      · rw [em, e]
        exact h0
      · rw [em, e]
        exact h1
    rw [hz]
    refine ⟨fun q => by omega, fun _ => ?_, fun q => by omega⟩
    unfold slt
    show (0 : Int) ≤ 0 + b * 2 ^ 14
    have z3 : (2 : Int) ^ 14 = 16384 := by decide
    rw [z3]
    omega
  · show 0 + (if zf T ((0 : Nat) : Int) = 0 then 1 else 0) + (if zf T ((1 : Nat) : Int) = 0 then 1 else 0) = (1 : Int) - 1 + 0
    have e0 : zf T ((0 : Nat) : Int) = 1 := if_pos h0
    have e1 : zf T ((1 : Nat) : Int) = 1 := if_pos h1
    rw [e0, e1]
    rfl
theorem mk125 (hts : trS sh tr ct) (hfr : shp sh fr = some (.inl (.int, nF))) (hne : fr ≠ tr ∧ fr ≠ ct) (ha : 0 ≤ at0 ∧ at0 + n ≤ nF) (hnF : nF ≤ 400) (hn : n ≤ 320) (hls : ∀ s : Nat, s < n → M fr (at0 + s) = ls s ∧ 0 ≤ ls s ∧ ls s ≤ 15) (hsum : sumL ls n 15 ≤ 32768) {all many : Int}
    (k : ∀ M2 : FM, trV (M2 ct) ls n 15 0 0 0 0 → (∀ c : Nat, c ≠ ct → c ≠ tr → M2 c = M c) → K (some (ti 1)) (sh, M2, nx, zl)) : ∀ (g l : Nat) (code : Int) (M2 : FM) (A : Int → Int) (D : Int → Nat) (N : Int) (y9 : Option TV), g + l = 15 → 0 ≤ code → (l ≤ 14 → 2 * code * 2 ^ (14 - l) = sumL ls n l) → tnV (M2 ct) A D N (sumL ls n l) ls n (inI ls (l + 1) 0) (offL ls n l) → rstI A N (sumL ls n l) → M2 tr 1 = N → (∀ c : Nat, c ≠ ct → c ≠ tr → M2 c = M c) → fm_X (d + 1) kd335 125 [some (gr tr), some (gr fr), some (ti at0), some (ti n), some (ti z), some (ti all), some (ti many), some (ti code), some (ti (l + 1)), y9] [] (sh, M2, nx, zl) K := by
  intro g
  induction g with
  | zero =>
    intro l code M2 A D N y9 a1 a2 a3 a4 a5 a6 a7
    have el : l = 15 := by omega
    subst el
    refine s335_125 (d + 1) K _ _ _ ?_
    refine ⟨by omega, fun w => ?_, fun w => by omega⟩
    refine ⟨Or.inr rfl, ?_⟩
    have bd := tn_bound a4
    have ol := offL_le ls n 15
    refine k M2 (trV_of a4 (fun x hx h1 => Or.inl ⟨h1, ?_⟩) (fun x hx => (hls x hx).2) (by omega) 15 0 0 0 0 rfl (by omega) (by omega) (by have := a4.1.1.1; omega) a4.1.1.2.2 ?_ ?_ (by omega)) a7
    · have := (hls x hx).2.2
      omega
    · rw [a4.1.1.2.1, Int.zero_mul]
    · rw [Int.zero_mul]
      rfl
  | succ g ih =>
    intro l code M2 A D N y9 a1 a2 a3 a4 a5 a6 a7
    refine s335_125 (d + 1) K _ _ _ ?_
    refine ⟨by omega, fun w => by omega, fun w => ?_⟩
    have hX := two_pos (14 - l)
    have e15l : 15 - (l + 1) = 14 - l := by omega
    have sm := sumL_mono ls n (l + 1) 15 (by omega)
    have sl1 : sumL ls n (l + 1) = sumL ls n l + cnt ls n (l + 1 : Nat) * 2 ^ (14 - l) := by
      show sumL ls n l + cnt ls n (l + 1 : Nat) * 2 ^ (15 - (l + 1)) = _
      rw [e15l]
    have ol := offL_le ls n (l + 1)
    have ol1 : offL ls n (l + 1) = offL ls n l + cnt ls n (l + 1 : Nat) := rfl
    have ol0 := offL_mono ls n 0 l (by omega)
    have ol00 : (0 : Int) ≤ offL ls n l := ol0
    have L : ∀ (G s : Nat) (M3 : FM) (A3 : Int → Int) (D3 : Int → Nat) (N3 : Int), n - s < G → s ≤ n → tnV (M3 ct) A3 D3 N3 ((2 * code + cnt ls s (l + 1 : Nat)) * 2 ^ (14 - l)) ls n (inI ls (l + 1) s) (offL ls n l + cnt ls s (l + 1 : Nat)) → rstI A3 N3 ((2 * code + cnt ls s (l + 1 : Nat)) * 2 ^ (14 - l)) → M3 tr 1 = N3 → (∀ c : Nat, c ≠ ct → c ≠ tr → M3 c = M c) → fm_X (d + 1) kd335 141 [some (gr tr), some (gr fr), some (ti at0), some (ti n), some (ti z), some (ti all), some (ti many), some (ti (2 * code + cnt ls s (l + 1 : Nat))), some (ti (l + 1)), some (ti s)] [] (sh, M3, nx, zl) K := by
      intro G
      induction G with
      | zero => intro s M3 A3 D3 N3 b1; omega
      | succ G ihG =>
        intro s M3 A3 D3 N3 b1 b2 b3 b4 b5 b6
        refine s335_141 (d + 1) K _ _ _ ?_
        refine ⟨by omega, fun w2 => ?_, fun w2 => ?_⟩
        · have es : s = n := by omega
          rw [es] at b3 b4 ⊢
          have eU : (2 * code + cnt ls n (l + 1 : Nat)) * 2 ^ (14 - l) = sumL ls n (l + 1) := by
            rw [Int.add_mul, sl1, a3 (by omega)]
          rw [eU] at b3 b4
          have z := ih (l + 1) (2 * code + cnt ls n (l + 1 : Nat)) M3 A3 D3 N3 (some (ti (n : Int))) (by omega) (by have := (cnt_nn ls (l + 1 : Nat) n).1; omega) (fun hl => ?_) (tnV_I b3 (fun x hxn hx => ?_)) b4 b5 b6
          · rw [show (((l + 1 : Nat) : Int) + 1) = (l : Int) + 1 + 1 by omega] at z
            exact z
          · rw [← eU, show 14 - l = (14 - (l + 1)) + 1 by omega, p2s, Int.mul_comm 2, Int.mul_assoc]
          · unfold inI at hx ⊢
            have hx2 : 1 ≤ ls x ∧ ls x < ((l + 1 + 1 : Nat) : Int) := by
              rcases hx with q | q
              · exact q
              · omega
            by_cases e : ls x = ((l + 1 : Nat) : Int)
            · exact Or.inr ⟨e, hxn⟩
            · exact Or.inl (by omega)
        · have hs : s < n := by omega
          obtain ⟨c1, c2, c3⟩ := hls s hs
          have ev : M3 fr (at0 + s) = ls s := by rw [b6 fr hne.2 hne.1]; exact c1
          have cs : cnt ls (s + 1) (l + 1 : Nat) = cnt ls s (l + 1 : Nat) + (if ls s = (l + 1 : Nat) then 1 else 0) := rfl
          have cn0 := (cnt_nn ls (l + 1 : Nat) s).1
          refine ⟨nF, hfr, by omega, ?_⟩
          refine ⟨by omega, fun w3 => ?_, fun w3 => ?_⟩
          · have hne2 : ls s ≠ ((l + 1 : Nat) : Int) := by rw [ev] at w3; omega
            rw [if_neg hne2] at cs
            have e0 : cnt ls (s + 1) (l + 1 : Nat) = cnt ls s (l + 1 : Nat) := by omega
            have tI : tnV (M3 ct) A3 D3 N3 ((2 * code + cnt ls s (l + 1 : Nat)) * 2 ^ (14 - l)) ls n (inI ls (l + 1) (s + 1)) (offL ls n l + cnt ls s (l + 1 : Nat)) := by
              refine tnV_I b3 (fun x hxn hx => ?_)
              unfold inI at hx ⊢
              rcases hx with q | q
              · exact Or.inl q
              · refine Or.inr ⟨q.1, ?_⟩
                by_cases e : x = s
                · rw [e] at q
                  exact absurd q.1 hne2
                · omega
            have z := ihG (s + 1) M3 A3 D3 N3 (by omega) (by omega) (by rw [e0]; exact tI) (by rw [e0]; exact b4) b5 b6
            rw [e0, show ((s + 1 : Nat) : Int) = (s : Int) + 1 by omega] at z
            exact z
          · have hl1 : ls s = ((l + 1 : Nat) : Int) := by rw [ev] at w3; omega
            rw [if_pos hl1] at cs
            have clt := cntLt ls (l + 1 : Nat) n s hs hl1
            have hmx : (2 * code + cnt ls s (l + 1 : Nat)) * 2 ^ (14 - l) + 2 ^ (14 - l) ≤ 32768 := by
              have q1 : (cnt ls s (l + 1 : Nat) + 1) * 2 ^ (14 - l) ≤ cnt ls n (l + 1 : Nat) * 2 ^ (14 - l) := Int.mul_le_mul_of_nonneg_right (by omega) (by omega)
              rw [Int.add_mul, a3 (by omega)]
              rw [Int.add_mul, Int.one_mul] at q1
              omega
            have hcode : 2 * code + cnt ls s (l + 1 : Nat) ≤ 32768 := by
              have q0 : (0 : Int) ≤ 2 * code + cnt ls s (l + 1 : Nat) := by omega
              have q1 : (2 * code + cnt ls s (l + 1 : Nat)) * 1 ≤ (2 * code + cnt ls s (l + 1 : Nat)) * 2 ^ (14 - l) := Int.mul_le_mul_of_nonneg_left (by omega) q0
              omega
            have hpos : posS ls n s = (2 * code + cnt ls s (l + 1 : Nat)) * 2 ^ (14 - l) := by
              unfold posS
              rw [hl1, show (((l + 1 : Nat) : Int) - 1).toNat = l by omega, show (((l + 1 : Nat) : Int)).toNat = l + 1 by omega, e15l, Int.add_mul, a3 (by omega)]
            have zz := mgrow_Y (d := d) (nx := nx) (zl := zl) (sh := sh) (M := M3) (l := l + 1) (s := s) (code := 2 * code + cnt ls s (l + 1 : Nat)) (K := fun w h2 => o_inc 7 1 (b335_171 (d + 1) (fW (d + 1) kd335 K) K) [some (gr tr), some (gr fr), some (ti at0), some (ti n), some (ti z), some (ti all), some (ti many), some (ti (2 * code + cnt ls s (l + 1 : Nat))), some (ti (l + 1)), some (ti s)] (w.toList ++ []) h2) hts (by rw [e15l]; exact b3) (by rw [e15l]; exact b4) b5 (by omega) (by omega) (by rw [e15l]; exact hmx) (by omega) hs (by omega) hl1 (by rw [e15l]; exact hpos) (fun M4 A4 D4 N4 x1 x2 x3 x4 => ?_)
            · rw [show ((l + 1 : Nat) : Int) = (l : Int) + 1 by omega] at zz
              exact ⟨⟨_, hts.1⟩, zz⟩
            · rw [e15l] at x1 x2
              have eU : (2 * code + cnt ls s (l + 1 : Nat)) * 2 ^ (14 - l) + 2 ^ (14 - l) = (2 * code + cnt ls (s + 1) (l + 1 : Nat)) * 2 ^ (14 - l) := by
                rw [cs, ← Int.add_assoc, Int.add_mul (2 * code + cnt ls s (l + 1 : Nat)) 1, Int.one_mul]
              rw [eU] at x1 x2
              have eL : offL ls n l + cnt ls s (l + 1 : Nat) + 1 = offL ls n l + cnt ls (s + 1) (l + 1 : Nat) := by omega
              rw [eL] at x1
              have tI : tnV (M4 ct) A4 D4 N4 ((2 * code + cnt ls (s + 1) (l + 1 : Nat)) * 2 ^ (14 - l)) ls n (inI ls (l + 1) (s + 1)) (offL ls n l + cnt ls (s + 1) (l + 1 : Nat)) := by
                refine tnV_I x1 (fun x hxn hx => ?_)
                unfold inI at hx ⊢
                rcases hx with q | q
                · exact Or.inl (Or.inl q)
                · by_cases e : x = s
                  · exact Or.inr e
                  · exact Or.inl (Or.inr ⟨q.1, by omega⟩)
              have z2 := ihG (s + 1) M4 A4 D4 N4 (by omega) (by omega) tI x2 x3 (fun c q1 q2 => (x4 c q1 q2).trans (b6 c q1 q2))
              rw [cs, ← Int.add_assoc, show ((s + 1 : Nat) : Int) = (s : Int) + 1 by omega] at z2
              exact z2
    have z := L (n + 1) 0 M2 A D N (by omega) (by omega) ?_ ?_ a6 a7
    · rw [show 2 * code + cnt ls 0 (l + 1 : Nat) = 2 * code by show 2 * code + 0 = _; omega] at z
      exact z
    · rw [show 2 * code + cnt ls 0 (l + 1 : Nat) = 2 * code by show 2 * code + 0 = _; omega, a3 (by omega), show offL ls n l + cnt ls 0 (l + 1 : Nat) = offL ls n l by show offL ls n l + 0 = _; omega]
      exact a4
    · rw [show 2 * code + cnt ls 0 (l + 1 : Nat) = 2 * code by show 2 * code + 0 = _; omega, a3 (by omega)]
      exact a5
end VMAKE
