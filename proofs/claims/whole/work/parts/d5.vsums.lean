/-! UNPACKING: sums over lengths, two ways; a made tree answers as the code does -/
def smS (ls : Int → Int) : Nat → Int
  | 0 => 0
  | s + 1 => smS ls s + (if 0 < ls s then 2 ^ (15 - (ls s).toNat) else 0)
def mnS (ls : Int → Int) : Nat → Int
  | 0 => 0
  | s + 1 => mnS ls s + (if 0 < ls s then 1 else 0)
theorem sumL_n (ls : Int → Int) (n : Nat) : ∀ L : Nat, sumL ls (n + 1) L = sumL ls n L + (if 1 ≤ ls n ∧ ls n ≤ L then 2 ^ (15 - (ls n).toNat) else 0)
  | 0 => by
    rw [if_neg (by omega)]
    rfl
  | L + 1 => by
    have ih := sumL_n ls n L
    show sumL ls (n + 1) L + (cnt ls n (L + 1 : Nat) + (if ls n = (L + 1 : Nat) then 1 else 0)) * 2 ^ (15 - (L + 1)) = sumL ls n L + cnt ls n (L + 1 : Nat) * 2 ^ (15 - (L + 1)) + _
    rw [ih, Int.add_mul]
    by_cases e : ls n = (L + 1 : Nat)
    · rw [if_neg (by omega), if_pos e, if_pos (by omega), show (ls n).toNat = L + 1 by omega]
      omega
    · rw [if_neg e]
      by_cases e2 : 1 ≤ ls n ∧ ls n ≤ L
      · rw [if_pos e2, if_pos (by omega)]
        omega
      · rw [if_neg e2, if_neg (by omega)]
        omega
theorem offL_n (ls : Int → Int) (n : Nat) : ∀ L : Nat, offL ls (n + 1) L = offL ls n L + (if 1 ≤ ls n ∧ ls n ≤ L then 1 else 0)
  | 0 => by
    rw [if_neg (by omega)]
    rfl
  | L + 1 => by
    have ih := offL_n ls n L
    show offL ls (n + 1) L + (cnt ls n (L + 1 : Nat) + (if ls n = (L + 1 : Nat) then 1 else 0)) = offL ls n L + cnt ls n (L + 1 : Nat) + _
    rw [ih]
    by_cases e : ls n = (L + 1 : Nat)
    · rw [if_neg (by omega), if_pos e, if_pos (by omega)]
      omega
    · rw [if_neg e]
      by_cases e2 : 1 ≤ ls n ∧ ls n ≤ L
      · rw [if_pos e2, if_pos (by omega)]
        omega
      · rw [if_neg e2, if_neg (by omega)]
        omega
theorem sumL_00 (ls : Int → Int) : ∀ L : Nat, sumL ls 0 L = 0 ∧ offL ls 0 L = 0
  | 0 => ⟨rfl, rfl⟩
  | L + 1 => by
    have ih := sumL_00 ls L
    refine ⟨?_, ?_⟩
    · show sumL ls 0 L + 0 * 2 ^ (15 - (L + 1)) = 0
      rw [ih.1, Int.zero_mul]
      rfl
    · show offL ls 0 L + 0 = 0
      omega
theorem smS_eq (ls : Int → Int) : ∀ n : Nat, (∀ s : Nat, s < n → 0 ≤ ls s ∧ ls s ≤ 15) → smS ls n = sumL ls n 15 ∧ mnS ls n = offL ls n 15
  | 0, _ => ⟨(sumL_00 ls 15).1.symm, (sumL_00 ls 15).2.symm⟩
  | n + 1, h => by
    have ih := smS_eq ls n (fun s hs => h s (by omega))
    have hn := h n (by omega)
    rw [sumL_n, offL_n]
    show smS ls n + (if 0 < ls n then 2 ^ (15 - (ls n).toNat) else 0) = _ ∧ mnS ls n + (if 0 < ls n then 1 else 0) = _
    by_cases e : 0 < ls n
    · rw [if_pos e, if_pos e, if_pos (by omega), if_pos (by omega), ih.1, ih.2]
      exact ⟨rfl, rfl⟩
    · rw [if_neg e, if_neg e, if_neg (by omega), if_neg (by omega), ih.1, ih.2]
      exact ⟨rfl, rfl⟩
theorem smS_le (ls : Int → Int) : ∀ n : Nat, (∀ s : Nat, s < n → 0 ≤ ls s ∧ ls s ≤ 15) → (0 ≤ smS ls n ∧ smS ls n ≤ 16384 * n) ∧ (0 ≤ mnS ls n ∧ mnS ls n ≤ n)
  | 0, _ => by
    show ((0 : Int) ≤ 0 ∧ (0 : Int) ≤ 16384 * ((0 : Nat) : Int)) ∧ ((0 : Int) ≤ 0 ∧ (0 : Int) ≤ ((0 : Nat) : Int))
    omega
  | n + 1, h => by
    have ih := smS_le ls n (fun s hs => h s (by omega))
    have hn := h n (by omega)
    show (0 ≤ smS ls n + (if 0 < ls n then 2 ^ (15 - (ls n).toNat) else 0) ∧ smS ls n + (if 0 < ls n then 2 ^ (15 - (ls n).toNat) else 0) ≤ 16384 * ((n + 1 : Nat) : Int)) ∧ (0 ≤ mnS ls n + (if 0 < ls n then 1 else 0) ∧ mnS ls n + (if 0 < ls n then 1 else 0) ≤ ((n + 1 : Nat) : Int))
    by_cases e : 0 < ls n
    · rw [if_pos e, if_pos e]
      have z := two_pos (15 - (ls n).toNat)
      have z2 := p2_mono (15 - (ls n).toNat) 14 (by omega)
      have z3 : (2 : Int) ^ 14 = 16384 := by decide
      omega
    · rw [if_neg e, if_neg e]
      omega
theorem sumL_2 (ls : Int → Int) (n : Nat) : ∀ L : Nat, L ≤ 14 → cnt ls n 1 * 16384 ≤ sumL ls n (L + 1) ∧ sumL ls n (L + 1) ≤ cnt ls n 1 * 16384 + (offL ls n (L + 1) - cnt ls n 1) * 8192
  | 0, _ => by
    show cnt ls n 1 * 16384 ≤ 0 + cnt ls n (1 : Nat) * 2 ^ 14 ∧ 0 + cnt ls n (1 : Nat) * 2 ^ 14 ≤ cnt ls n 1 * 16384 + (0 + cnt ls n (1 : Nat) - cnt ls n 1) * 8192
    have z3 : (2 : Int) ^ 14 = 16384 := by decide
    rw [z3]
    have e : cnt ls n ((1 : Nat) : Int) = cnt ls n 1 := rfl
    rw [e]
    omega
  | L + 1, h => by
    have ih := sumL_2 ls n L (by omega)
    have c := (cnt_nn ls (L + 1 + 1 : Nat) n).1
    have z := p2_mono (15 - (L + 1 + 1)) 13 (by omega)
    have z1 := two_pos (15 - (L + 1 + 1))
    have z2 : (2 : Int) ^ 13 = 8192 := by decide
    have z3 := mul_le4 (x := cnt ls n (L + 1 + 1 : Nat)) (y := 2 ^ (15 - (L + 1 + 1))) (a := cnt ls n (L + 1 + 1 : Nat)) (b := 8192) c (by omega) (by omega) (by omega)
    show _ ≤ sumL ls n (L + 1) + cnt ls n (L + 1 + 1 : Nat) * 2 ^ (15 - (L + 1 + 1)) ∧ sumL ls n (L + 1) + cnt ls n (L + 1 + 1 : Nat) * 2 ^ (15 - (L + 1 + 1)) ≤ _ + (offL ls n (L + 1) + cnt ls n (L + 1 + 1 : Nat) - _) * 8192
    omega
theorem okL_iff (ls : Int → Int) (n : Nat) (z : Int) : (sumL ls n 15 = 32768 ∨ (offL ls n 15 = 1 ∧ sumL ls n 15 = 16384) ∨ (offL ls n 15 = 0 ∧ z ≠ 0)) ↔ okL ls n z := by
  have h := sumL_2 ls n 14 (by omega)
  have c1 := (cnt_nn ls 1 n).1
  have c2 : cnt ls n 1 ≤ offL ls n 15 := by
    have := offL_mono ls n 1 15 (by omega)
    have e : offL ls n 1 = 0 + cnt ls n ((1 : Nat) : Int) := rfl
    have e2 : cnt ls n ((1 : Nat) : Int) = cnt ls n 1 := rfl
    omega
  have h' : cnt ls n 1 * 16384 ≤ sumL ls n 15 ∧ sumL ls n 15 ≤ cnt ls n 1 * 16384 + (offL ls n 15 - cnt ls n 1) * 8192 := h
  unfold okL
  constructor
  · rintro (a | a | a)
    · exact Or.inl a
    · exact Or.inr (Or.inl ⟨a.1, by omega⟩)
    · exact Or.inr (Or.inr a)
  · rintro (a | a | a)
    · exact Or.inl a
    · exact Or.inr (Or.inl ⟨a.1, by omega⟩)
    · exact Or.inr (Or.inr a)
theorem sumL_mono (ls : Int → Int) (n : Nat) : ∀ l m : Nat, l ≤ m → sumL ls n l ≤ sumL ls n m
  | l, 0, h => by
    rw [show l = 0 by omega]
    omega
  | l, m + 1, h => by
    by_cases e : l = m + 1
    · rw [e]
      omega
    · have ih := sumL_mono ls n l m (by omega)
      have c := (cnt_nn ls (m + 1 : Nat) n).1
      have z1 := two_pos (15 - (m + 1))
      have z := Int.mul_nonneg c (show (0 : Int) ≤ 2 ^ (15 - (m + 1)) by omega)
      show _ ≤ sumL ls n m + cnt ls n (m + 1 : Nat) * 2 ^ (15 - (m + 1))
      omega
/-- behind all codes nothing is read -/
theorem syG_far {f : Int → Int} {E : Int} {ls : Int → Int} {n : Nat} : ∀ (g l : Nat) (v fi p : Int), g + l = 15 → (l ≤ 14 → fi * 2 ^ (14 - l) = sumL ls n l) → sumL ls n 15 ≤ v * 2 ^ (15 - l) → syG f E ls n g l v fi p = none := by
  intro g
  induction g with
  | zero =>
    intro l v fi p _ _ _
    rfl
  | succ g ih =>
    intro l v fi p h1 h2 h3
    show (if p < E then (if 2 * v + bt f p - fi < cnt ls n (l + 1 : Nat) then some (nth ls (l + 1 : Nat) (2 * v + bt f p - fi) n, p + 1) else syG f E ls n g (l + 1) (2 * v + bt f p) (2 * (fi + cnt ls n (l + 1 : Nat))) (p + 1)) else none) = none
    by_cases e : p < E
    · rw [if_pos e]
      have hb := bt_rng f p
      have hX := two_pos (14 - l)
      have e15 := x15 (d := l) (by omega)
      have hs : sumL ls n (l + 1) = (fi + cnt ls n (l + 1 : Nat)) * 2 ^ (14 - l) := by
        show sumL ls n l + cnt ls n (l + 1 : Nat) * 2 ^ (15 - (l + 1)) = _
        rw [show 15 - (l + 1) = 14 - l by omega, Int.add_mul, h2 (by omega)]
      have hm := sumL_mono ls n (l + 1) 15 (by omega)
      have q3 : v * 2 ^ (15 - l) = 2 * v * 2 ^ (14 - l) := by rw [e15, Int.mul_comm 2 v, Int.mul_assoc]
      have q1 : (fi + cnt ls n (l + 1 : Nat)) * 2 ^ (14 - l) ≤ 2 * v * 2 ^ (14 - l) := by
        rw [← hs]
        omega
      have q2 := Int.le_of_mul_le_mul_right q1 hX
      rw [if_neg (by omega)]
      refine ih (l + 1) _ _ _ (by omega) (fun hl => ?_) ?_
      · rw [hs, show 14 - l = (14 - (l + 1)) + 1 by omega, p2s, Int.mul_comm 2, Int.mul_assoc]
      · rw [show 15 - (l + 1) = 14 - l by omega, Int.add_mul]
        have q4 := Int.mul_nonneg hb.1 (show (0 : Int) ≤ 2 ^ (14 - l) by omega)
        omega
    · rw [if_neg e]
/-- a tree that holds all codes answers as they are read -/
theorem trV_of {T A : Int → Int} {D : Int → Nat} {N Lc : Int} {ls : Int → Int} {n : Nat} {I : Nat → Prop} (h : tnV T A D N (sumL ls n 15) ls n I Lc) (hall : ∀ x : Nat, x < n → 1 ≤ ls x → I x) (hr : ∀ x : Nat, x < n → 0 ≤ ls x ∧ ls x ≤ 15) (hb : N ≤ 649) : ∀ (g l : Nat) (m v fi : Int), g + l = 15 → 1 ≤ g → 0 ≤ m → m < N → D m = l → A m = v * 2 ^ (15 - l) → fi * 2 ^ (14 - l) = sumL ls n l → fi ≤ 2 * v → trV T ls n g l m v fi := by
  intro g
  induction g with
  | zero => intro l m v fi h1 h2; omega
  | succ g ih =>
    intro l m v fi h1 h2 m0 m1 hD hA hfi hv
    obtain ⟨hN, hI, hS, hP, hC, hZ⟩ := h
    have hX := two_pos (14 - l)
    have e15 := x15 (d := l) (by omega)
    refine ⟨by omega, fun b b0 b1 => ?_⟩
    have es : slt A D m b = (2 * v + b) * 2 ^ (14 - l) := by
      unfold slt
      rw [hA, hD, e15, Int.add_mul, Int.mul_comm 2 v, Int.mul_assoc]
    obtain ⟨q1, q2, q3⟩ := hS m b m0 m1 b0 b1
    have hs : sumL ls n (l + 1) = (fi + cnt ls n (l + 1 : Nat)) * 2 ^ (14 - l) := by
      show sumL ls n l + cnt ls n (l + 1 : Nat) * 2 ^ (15 - (l + 1)) = _
      rw [show 15 - (l + 1) = 14 - l by omega, Int.add_mul, hfi]
    have hfi2 : l + 1 ≤ 14 → 2 * (fi + cnt ls n (l + 1 : Nat)) * 2 ^ (14 - (l + 1)) = sumL ls n (l + 1) := by
      intro hl
      rw [hs, show 14 - l = (14 - (l + 1)) + 1 by omega, p2s, Int.mul_comm 2, Int.mul_assoc]
    have hpos : ∀ s : Nat, ls s = (l + 1 : Nat) → posS ls n s = (fi + cnt ls s (l + 1 : Nat)) * 2 ^ (14 - l) := by
      intro s e
      unfold posS
      rw [e, show (((l + 1 : Nat) : Int) - 1).toNat = l by omega, show (((l + 1 : Nat) : Int)).toNat = l + 1 by omega, show 15 - (l + 1) = 14 - l by omega, Int.add_mul, hfi]
    refine ⟨fun hc => ?_, fun hc => ?_⟩
    · obtain ⟨s, s1, s2, s3⟩ := nth_ex ls (l + 1 : Nat) n (2 * v + b - fi) (by omega) hc
      rw [← s3, nth_at ls (l + 1 : Nat) n s s1 s2]
      obtain ⟨m3, b3, r1, r2, r3, r4⟩ := hC s s1 (hall s s1 (by omega))
      have eD3 : D m3 = l := by omega
      have e4 : slt A D m3 b3 = slt A D m b := by
        rw [r4, hpos s s2, es, s3]
        congr 1
        omega
      have ml1 := (hN.2 m3 r1.1 r1.2.1).2.2.2
      have ml2 := (hN.2 m m0 m1).2.2.2
      unfold slt at e4
      rw [eD3] at e4 ml1
      rw [hD] at e4 ml2
      have eb : b = 0 ∨ b = 1 := by omega
      have eb3 : b3 = 0 ∨ b3 = 1 := by omega
      have eA : A m3 = A m := by
        refine mlt_eq (by omega) ml1 ml2 ?_ ?_
        · rcases eb with q | q <;> rcases eb3 with q4 | q4 <;> rw [q, q4] at e4 <;> omega
        · rcases eb with q | q <;> rcases eb3 with q4 | q4 <;> rw [q, q4] at e4 <;> omega
      have em := hI m3 m r1.1 r1.2.1 m0 m1 eA (by rw [eD3, hD])
      have ebb : b3 = b := by
        rw [eA] at e4
        rcases eb with q | q <;> rcases eb3 with q4 | q4 <;> rw [q, q4] at e4 ⊢ <;> omega
      rw [em, ebb] at r2
      exact r2
    · by_cases c1 : T (2 * m + b) = 0
      · refine Or.inl ⟨c1, fun f E p => ?_⟩
        have z := q2 c1
        rw [es] at z
        refine syG_far g (l + 1) _ _ p (by omega) hfi2 ?_
        rw [show 15 - (l + 1) = 14 - l by omega]
        exact z
      · by_cases c2 : 0 < T (2 * m + b)
        · refine Or.inr ⟨c2, ?_⟩
          obtain ⟨r1, r2, r3⟩ := q1 c2
          have d14 := (hN.2 _ (by omega) r1).1
          rw [r3, hD] at d14
          refine ih (l + 1) _ _ _ (by omega) (by omega) (by omega) r1 (by rw [r3, hD]) ?_ (hfi2 d14) (by omega)
          rw [r2, es, show 15 - (l + 1) = 14 - l by omega]
        · obtain ⟨r1, s, s1, s2, s3, s4⟩ := q3 (by omega)
          rw [hD] at s3
          rw [es, hpos s s3] at s4
          have e5 : fi + cnt ls s (l + 1 : Nat) = 2 * v + b := Int.eq_of_mul_eq_mul_right (by omega) s4
          have e6 := cntLt ls (l + 1 : Nat) n s s1 s3
          omega
