/-! THE BEGINNING: the relation holds -/
theorem k_168_1 : M1 168 1 = 0 := by decide +kernel
theorem k_168_2 : M1 168 2 = 0 := by decide +kernel
theorem k_168_4 : M1 168 4 = 0 := by decide +kernel
theorem k_168_5 : M1 168 5 = 1 := by decide +kernel
theorem k_168_17 : M1 168 17 = 0 := by decide +kernel
theorem k_168_19 : M1 168 19 = 0 := by decide +kernel
theorem k_168_20 : M1 168 20 = 0 := by decide +kernel
theorem k_168_26 : M1 168 26 = 0 := by decide +kernel
theorem k_168_59 : M1 168 59 = 0 := by decide +kernel
theorem k_168_90 : M1 168 90 = -2 := by decide +kernel
theorem k_168_91 : M1 168 91 = 0 := by decide +kernel
theorem k_4_1 : M1 4 1 = 0 := by decide +kernel
theorem k_3_5 : M1 3 5 = 0 := by decide +kernel
theorem k_6_1 : M1 6 1 = 0 := by decide +kernel
theorem k_3_6 : M1 3 6 = 0 := by decide +kernel
theorem k_3_7 : M1 3 7 = -2 := by decide +kernel
theorem k_98_1 : M1 98 1 = 0 := by decide +kernel
theorem k_8_2 : M1 8 2 = 1 := by decide +kernel
theorem k_8_7 : M1 8 7 = 0 := by decide +kernel
theorem k_8_8 : M1 8 8 = 0 := by decide +kernel
theorem k_8_9 : M1 8 9 = 0 := by decide +kernel
theorem k_9_1 : M1 9 1 = 0 := by decide +kernel
theorem k_11_0 : M1 11 0 = 17 := by decide +kernel
theorem k_114_0 : M1 114 0 = 0 := by decide +kernel
theorem k_228_0 : M1 228 0 = 0 := by decide +kernel
theorem k_232_0 : M1 232 0 = 0 := by decide +kernel
theorem k_171_0 : M1 171 0 = 1 := by decide +kernel
theorem k_179_0 : M1 179 0 = 0 := by decide +kernel
theorem k_180_0 : M1 180 0 = 0 := by decide +kernel
theorem k_177_0 : M1 177 0 = 0 := by decide +kernel
theorem k_17_0 : M1 17 0 = 0 := by decide +kernel
theorem k_17_1 : M1 17 1 = 1 := by decide +kernel
theorem k_17_2 : M1 17 2 = 0 := by decide +kernel
theorem k_17_4 : M1 17 4 = 0 := by decide +kernel
theorem k_17_9 : M1 17 9 = 0 := by decide +kernel
theorem k_17_10 : M1 17 10 = 0 := by decide +kernel
theorem k_17_11 : M1 17 11 = 0 := by decide +kernel
theorem k_17_12 : M1 17 12 = 0 := by decide +kernel
theorem k_rng : ((M1 17 5 = M1 172 0 ∧ 0 ≤ M1 172 0 ∧ M1 172 0 ≤ 4095) ∧ (M1 17 6 = M1 173 0 ∧ -2147483648 ≤ M1 173 0 ∧ M1 173 0 ≤ 2147483647) ∧ (M1 17 7 = M1 174 0 ∧ -2147483648 ≤ M1 174 0 ∧ M1 174 0 ≤ 2147483647)) ∧ (M1 17 8 = M1 175 0 ∧ -2147483648 ≤ M1 175 0 ∧ M1 175 0 ≤ 2147483647) ∧ (-2147483648 ≤ M1 176 0 ∧ M1 176 0 ≤ 2147483647) := by decide +kernel
theorem ckT : ((List.range 19).all fun i => decide (M1 1 i = tel i)) = true := by decide +kernel
theorem ckF : ((List.range 15).all fun i => decide (M1 2 i = fxT i)) = true := by decide +kernel
theorem ckN : ((List.range 16).all fun l => Nat.beq l 0 || (decide (M1 152 l = cnt fxA 288 l) && decide (M1 159 l = cnt fxB 32 l))) = true := by decide +kernel
def oA (v : Int) : Int := if v = 7 then 0 else if v = 8 then 24 else 176
def fA (v : Int) : Int := if v = 7 then 0 else if v = 8 then 48 else 400
theorem ckA : ((List.range 288).all fun s => decide (M1 157 (oA (fxA s) + cnt fxA s (fxA s)) = s) && (decide (M1 54 s = fxA s) && decide (M1 55 s = rvB (fA (fxA s) + cnt fxA s (fxA s)) (fxA s).toNat))) = true := by decide +kernel
theorem ckB : ((List.range 32).all fun s => decide (M1 164 (0 + cnt fxB s (fxB s)) = s) && (decide (M1 61 s = fxB s) && decide (M1 62 s = rvB (0 + cnt fxB s (fxB s)) (fxB s).toNat))) = true := by decide +kernel
theorem ck_o : (offL fxA 288 6 = 0 ∧ offL fxA 288 7 = 24 ∧ offL fxA 288 8 = 176 ∧ offL fxB 32 4 = 0) ∧ fstL fxA 288 7 = 0 ∧ fstL fxA 288 8 = 48 ∧ fstL fxA 288 9 = 400 ∧ fstL fxB 32 5 = 0 := by decide +kernel
theorem fxA_c (s : Int) : fxA s = 7 ∨ fxA s = 8 ∨ fxA s = 9 := by
  unfold fxA
  split
  · omega
  · split
    · omega
    · split <;> omega
theorem cdV_of {M : FM} {c3 c4 : Nat} {ls : Int → Int} {n : Nat} (o : Int → Int) (h1 : ∀ l : Nat, 1 ≤ l → l ≤ 15 → M c4 l = cnt ls n l) (ho : ∀ (s l : Nat), s < n → ls s = (l + 1 : Nat) → offL ls n l = o (ls s)) (h2 : ∀ s : Nat, s < n → M c3 (o (ls s) + cnt ls s (ls s)) = s) : cdV M c3 c4 ls n := by
  refine ⟨h1, fun l j hl j0 j1 => ?_⟩
  obtain ⟨s, s1, s2, s3⟩ := nth_ex ls _ n j j0 j1
  rw [← s3, nth_at ls _ n s s1 s2, ho s l s1 s2, ← s2]
  exact h2 s s1
section BEGIN
variable {L : Nat} {xs : Nat → Int32}
theorem treeR_0 {M : FM} (h : ∀ c : Nat, c ≠ 0 → M c = M1 c) : treeR (sh0 L) M := by
  have q_168_1 : M 168 1 = 0 := by rw [h 168 (by decide)]; exact k_168_1
  have q_168_2 : M 168 2 = 0 := by rw [h 168 (by decide)]; exact k_168_2
  have q_168_4 : M 168 4 = 0 := by rw [h 168 (by decide)]; exact k_168_4
  have q_168_5 : M 168 5 = 1 := by rw [h 168 (by decide)]; exact k_168_5
  have q_168_17 : M 168 17 = 0 := by rw [h 168 (by decide)]; exact k_168_17
  have q_168_19 : M 168 19 = 0 := by rw [h 168 (by decide)]; exact k_168_19
  have q_168_20 : M 168 20 = 0 := by rw [h 168 (by decide)]; exact k_168_20
  have q_168_26 : M 168 26 = 0 := by rw [h 168 (by decide)]; exact k_168_26
  have q_168_59 : M 168 59 = 0 := by rw [h 168 (by decide)]; exact k_168_59
  have q_168_90 : M 168 90 = -2 := by rw [h 168 (by decide)]; exact k_168_90
  have q_168_91 : M 168 91 = 0 := by rw [h 168 (by decide)]; exact k_168_91
  have q_4_1 : M 4 1 = 0 := by rw [h 4 (by decide)]; exact k_4_1
  have q_3_5 : M 3 5 = 0 := by rw [h 3 (by decide)]; exact k_3_5
  have q_6_1 : M 6 1 = 0 := by rw [h 6 (by decide)]; exact k_6_1
  have q_3_6 : M 3 6 = 0 := by rw [h 3 (by decide)]; exact k_3_6
  have q_3_7 : M 3 7 = -2 := by rw [h 3 (by decide)]; exact k_3_7
  have q_98_1 : M 98 1 = 0 := by rw [h 98 (by decide)]; exact k_98_1
  have q_8_2 : M 8 2 = 1 := by rw [h 8 (by decide)]; exact k_8_2
  have q_8_7 : M 8 7 = 0 := by rw [h 8 (by decide)]; exact k_8_7
  have q_8_8 : M 8 8 = 0 := by rw [h 8 (by decide)]; exact k_8_8
  have q_8_9 : M 8 9 = 0 := by rw [h 8 (by decide)]; exact k_8_9
  have q_9_1 : M 9 1 = 0 := by rw [h 9 (by decide)]; exact k_9_1
  have q_11_0 : M 11 0 = 17 := by rw [h 11 (by decide)]; exact k_11_0
  have q_114_0 : M 114 0 = 0 := by rw [h 114 (by decide)]; exact k_114_0
  have q_228_0 : M 228 0 = 0 := by rw [h 228 (by decide)]; exact k_228_0
  have q_232_0 : M 232 0 = 0 := by rw [h 232 (by decide)]; exact k_232_0
  have q_171_0 : M 171 0 = 1 := by rw [h 171 (by decide)]; exact k_171_0
  have q_179_0 : M 179 0 = 0 := by rw [h 179 (by decide)]; exact k_179_0
  have q_180_0 : M 180 0 = 0 := by rw [h 180 (by decide)]; exact k_180_0
  have q_177_0 : M 177 0 = 0 := by rw [h 177 (by decide)]; exact k_177_0
  have q_17_0 : M 17 0 = 0 := by rw [h 17 (by decide)]; exact k_17_0
  have q_17_1 : M 17 1 = 1 := by rw [h 17 (by decide)]; exact k_17_1
  have q_17_2 : M 17 2 = 0 := by rw [h 17 (by decide)]; exact k_17_2
  have q_17_4 : M 17 4 = 0 := by rw [h 17 (by decide)]; exact k_17_4
  have q_17_9 : M 17 9 = 0 := by rw [h 17 (by decide)]; exact k_17_9
  have q_17_10 : M 17 10 = 0 := by rw [h 17 (by decide)]; exact k_17_10
  have q_17_11 : M 17 11 = 0 := by rw [h 17 (by decide)]; exact k_17_11
  have q_17_12 : M 17 12 = 0 := by rw [h 17 (by decide)]; exact k_17_12
  obtain ⟨⟨r5, r6, r7⟩, r8, r9⟩ := k_rng
  rw [← h 17 (by decide)] at r5 r6 r7 r8
  rw [← h 172 (by decide)] at r5
  rw [← h 173 (by decide)] at r6
  rw [← h 174 (by decide)] at r7
  rw [← h 175 (by decide)] at r8
  rw [← h 176 (by decide)] at r9
  have I0 : ∀ i : Int, 0 ≤ i → i < M 168 5 → i = 0 := fun i i0 i1 => by omega
  refine ⟨⟨⟨⟨by omega, by omega, q_171_0⟩, fun i i0 i1 => ?_⟩, ⟨by omega, fun i i0 i1 => ?_⟩, fun i j i0 i1 j0 j1 ne => absurd ((I0 i i0 i1).trans (I0 j j0 j1).symm) ne, ⟨by omega, fun k k0 k1 => ?_⟩, fun k m k0 km m1 => ?_, fun k m k0 k1 m0 m1 ne => ?_, fun i i0 i1 => ?_⟩, ⟨by omega, by omega, by omega, by omega, by omega⟩, fun i i0 i1 => ?_, fun k k0 k1 => ?_, fun i j i0 i1 j0 j1 ne => absurd ((I0 i i0 i1).trans (I0 j j0 j1).symm) ne⟩
  · rw [I0 i i0 i1]
    refine ⟨by omega, fun c => by omega, by omega, by omega, by omega, by omega, by omega⟩
  · rw [I0 i i0 i1]
    exact ⟨by omega, fun c => by omega, fun c => by omega⟩
  · exact absurd k1 (by omega)
  · exact absurd m1 (by omega)
  · exact absurd k1 (by omega)
  · rw [I0 i i0 i1]
    refine ⟨?_, fun _ => by omega⟩
    rw [q_177_0, q_168_20]
    rfl
  · rw [I0 i i0 i1]
    refine ⟨fun _ => ⟨17, q_11_0, none, none, ⟨rfl, Or.inl rfl⟩, ⟨q_17_0, by omega, ?_, by omega, by omega, by omega, by omega, by omega, ?_⟩, ⟨by omega, fun c => by omega, fun _ => ⟨q_17_11, q_17_12⟩⟩, ⟨fun c => by omega, fun _ => rfl⟩, ⟨by omega, fun _ => ⟨by omega, fun _ => ⟨rfl, q_17_4⟩, fun c => by omega⟩⟩⟩, fun q => absurd (Or.inl rfl) q⟩
    · rw [if_neg (by omega)]
      exact q_17_2
    · rw [q_17_10, q_168_20]
      rfl
  · exact absurd k1 (by omega)
theorem KC_0 {M : FM} (h : ∀ c : Nat, c ≠ 0 → M c = M1 c) : KC M := by
  obtain ⟨⟨o6, o7, o8, ob⟩, f7, f8, f9, fb⟩ := ck_o
  have A := List.all_eq_true.1 ckA
  have B := List.all_eq_true.1 ckB
  have A' : ∀ s : Nat, s < 288 → M1 157 (oA (fxA s) + cnt fxA s (fxA s)) = s ∧ M1 54 s = fxA s ∧ M1 55 s = rvB (fA (fxA s) + cnt fxA s (fxA s)) (fxA s).toNat := fun s hs => by
    have q := A s (List.mem_range.2 hs)
    rw [Bool.and_eq_true, Bool.and_eq_true] at q
    exact ⟨of_decide_eq_true q.1, of_decide_eq_true q.2.1, of_decide_eq_true q.2.2⟩
  have B' : ∀ s : Nat, s < 32 → M1 164 (0 + cnt fxB s (fxB s)) = s ∧ M1 61 s = fxB s ∧ M1 62 s = rvB (0 + cnt fxB s (fxB s)) (fxB s).toNat := fun s hs => by
    have q := B s (List.mem_range.2 hs)
    rw [Bool.and_eq_true, Bool.and_eq_true] at q
    exact ⟨of_decide_eq_true q.1, of_decide_eq_true q.2.1, of_decide_eq_true q.2.2⟩
  have N' : ∀ l : Nat, 1 ≤ l → l ≤ 15 → M1 152 l = cnt fxA 288 l ∧ M1 159 l = cnt fxB 32 l := fun l l1 l2 => by
    have q := List.all_eq_true.1 ckN l (List.mem_range.2 (by omega))
    have nb : Nat.beq l 0 = false := by
      cases q : Nat.beq l 0 with
      | false => rfl
      | true => exact absurd (Nat.eq_of_beq_eq_true q) (by omega)
    rw [nb, Bool.false_or, Bool.and_eq_true] at q
    exact ⟨of_decide_eq_true q.1, of_decide_eq_true q.2⟩
  refine ⟨⟨fun i i0 i1 => ?_, ?_, ?_⟩, fun i i0 i1 => ?_, ?_, ?_, ?_, ?_, ?_⟩
  · have q := of_decide_eq_true (List.all_eq_true.1 ckT i.toNat (List.mem_range.2 (by omega)))
    rw [show ((i.toNat : Nat) : Int) = i by omega] at q
    rw [h 1 (by decide)]
    exact q
  · refine cdV_of oA (fun l l1 l2 => ?_) (fun s l hs hl => ?_) (fun s hs => ?_)
    · rw [h 152 (by decide)]
      exact (N' l l1 l2).1
    · rcases fxA_c s with e | e | e
      · rw [e]
        rw [show l = 6 by omega]
        exact o6
      · rw [e]
        rw [show l = 7 by omega]
        exact o7
      · rw [e]
        rw [show l = 8 by omega]
        exact o8
    · rw [h 157 (by decide)]
      exact (A' s hs).1
  · refine cdV_of (fun _ => 0) (fun l l1 l2 => ?_) (fun s l hs hl => ?_) (fun s hs => ?_)
    · rw [h 159 (by decide)]
      exact (N' l l1 l2).2
    · have e : fxB s = 5 := rfl
      rw [show l = 4 by omega]
      exact ob
    · rw [h 164 (by decide)]
      exact (B' s hs).1
  · have q := of_decide_eq_true (List.all_eq_true.1 ckF i.toNat (List.mem_range.2 (by omega)))
    rw [show ((i.toNat : Nat) : Int) = i by omega] at q
    rw [h 2 (by decide)]
    exact q
  · rw [h 114 (by decide)]
    exact k_114_0
  · intro s hs
    rw [h 54 (by decide), h 55 (by decide)]
    have c := fxA_c s
    refine ⟨⟨(A' s hs).2.1, by omega, by omega⟩, ?_⟩
    rw [(A' s hs).2.2]
    unfold cdC
    have ef : fstL fxA 288 (fxA s).toNat = fA (fxA s) := by
      rcases c with e | e | e
      · rw [e]
        exact f7
      · rw [e]
        exact f8
      · rw [e]
        exact f9
    rw [ef]
  · intro s hs
    rw [h 61 (by decide), h 62 (by decide)]
    have e : fxB s = 5 := rfl
    refine ⟨⟨(B' s hs).2.1, by omega, by omega⟩, ?_⟩
    rw [(B' s hs).2.2]
    unfold cdC
    have ef : fstL fxB 32 (fxB s).toNat = 0 := fb
    rw [ef]
  · rw [h 228 (by decide)]
    exact k_228_0
  · rw [h 232 (by decide)]
    exact k_232_0
/-- the relation holds behind the constructors -/
theorem RR_0 : RR (VV KC WW) L xs 0 (sh0 L, Ms xs, 265, 2656208) := by
  have h : ∀ c : Nat, c ≠ 0 → Ms xs c = M1 c := fun c hc => Ms_ne hc
  refine ⟨⟨⟨rfl, fun j => ?_⟩, ⟨Nat.le_refl _, Nat.le_refl _, Nat.le_refl _⟩, fun c hc => ?_⟩, ?_, ?_, treeR_0 h, ?_⟩
  · show Int32.ofInt ((xs ((j : Nat) : Int).toNat).toInt) = xs j
    rw [Int.toNat_natCast, Int32.ofInt_toInt]
  · have hc2 : 265 ≤ c := hc
    exact if_neg (by omega)
  · show tapeR (Ms xs)
    obtain ⟨M, hM⟩ : ∃ M : FM, M = Ms xs := ⟨_, rfl⟩
    rw [← hM] at h ⊢
    have q_168_1 : M 168 1 = 0 := by rw [h 168 (by decide)]; exact k_168_1
    have q_168_2 : M 168 2 = 0 := by rw [h 168 (by decide)]; exact k_168_2
    have q_168_4 : M 168 4 = 0 := by rw [h 168 (by decide)]; exact k_168_4
    have q_168_5 : M 168 5 = 1 := by rw [h 168 (by decide)]; exact k_168_5
    have q_168_17 : M 168 17 = 0 := by rw [h 168 (by decide)]; exact k_168_17
    have q_168_19 : M 168 19 = 0 := by rw [h 168 (by decide)]; exact k_168_19
    have q_168_20 : M 168 20 = 0 := by rw [h 168 (by decide)]; exact k_168_20
    have q_168_26 : M 168 26 = 0 := by rw [h 168 (by decide)]; exact k_168_26
    have q_168_59 : M 168 59 = 0 := by rw [h 168 (by decide)]; exact k_168_59
    have q_168_90 : M 168 90 = -2 := by rw [h 168 (by decide)]; exact k_168_90
    have q_168_91 : M 168 91 = 0 := by rw [h 168 (by decide)]; exact k_168_91
    have q_4_1 : M 4 1 = 0 := by rw [h 4 (by decide)]; exact k_4_1
    have q_3_5 : M 3 5 = 0 := by rw [h 3 (by decide)]; exact k_3_5
    have q_6_1 : M 6 1 = 0 := by rw [h 6 (by decide)]; exact k_6_1
    have q_3_6 : M 3 6 = 0 := by rw [h 3 (by decide)]; exact k_3_6
    have q_3_7 : M 3 7 = -2 := by rw [h 3 (by decide)]; exact k_3_7
    have q_98_1 : M 98 1 = 0 := by rw [h 98 (by decide)]; exact k_98_1
    refine ⟨⟨by omega, by omega⟩, by omega, ?_, by omega, fun c => by omega⟩
    rw [q_168_1]
    rfl
  · show outR (Ms xs)
    obtain ⟨M, hM⟩ : ∃ M : FM, M = Ms xs := ⟨_, rfl⟩
    rw [← hM] at h ⊢
    have q_168_1 : M 168 1 = 0 := by rw [h 168 (by decide)]; exact k_168_1
    have q_168_2 : M 168 2 = 0 := by rw [h 168 (by decide)]; exact k_168_2
    have q_168_4 : M 168 4 = 0 := by rw [h 168 (by decide)]; exact k_168_4
    have q_168_5 : M 168 5 = 1 := by rw [h 168 (by decide)]; exact k_168_5
    have q_168_17 : M 168 17 = 0 := by rw [h 168 (by decide)]; exact k_168_17
    have q_168_19 : M 168 19 = 0 := by rw [h 168 (by decide)]; exact k_168_19
    have q_168_20 : M 168 20 = 0 := by rw [h 168 (by decide)]; exact k_168_20
    have q_168_26 : M 168 26 = 0 := by rw [h 168 (by decide)]; exact k_168_26
    have q_168_59 : M 168 59 = 0 := by rw [h 168 (by decide)]; exact k_168_59
    have q_168_90 : M 168 90 = -2 := by rw [h 168 (by decide)]; exact k_168_90
    have q_168_91 : M 168 91 = 0 := by rw [h 168 (by decide)]; exact k_168_91
    have q_4_1 : M 4 1 = 0 := by rw [h 4 (by decide)]; exact k_4_1
    have q_3_5 : M 3 5 = 0 := by rw [h 3 (by decide)]; exact k_3_5
    have q_6_1 : M 6 1 = 0 := by rw [h 6 (by decide)]; exact k_6_1
    have q_3_6 : M 3 6 = 0 := by rw [h 3 (by decide)]; exact k_3_6
    have q_3_7 : M 3 7 = -2 := by rw [h 3 (by decide)]; exact k_3_7
    have q_98_1 : M 98 1 = 0 := by rw [h 98 (by decide)]; exact k_98_1
    refine ⟨⟨by omega, by omega⟩, by omega, ?_⟩
    rw [q_168_4]
    rfl
  · show VV KC WW (Ms xs)
    obtain ⟨M, hM⟩ : ∃ M : FM, M = Ms xs := ⟨_, rfl⟩
    rw [← hM] at h ⊢
    have q_168_1 : M 168 1 = 0 := by rw [h 168 (by decide)]; exact k_168_1
    have q_168_2 : M 168 2 = 0 := by rw [h 168 (by decide)]; exact k_168_2
    have q_168_4 : M 168 4 = 0 := by rw [h 168 (by decide)]; exact k_168_4
    have q_168_5 : M 168 5 = 1 := by rw [h 168 (by decide)]; exact k_168_5
    have q_168_17 : M 168 17 = 0 := by rw [h 168 (by decide)]; exact k_168_17
    have q_168_19 : M 168 19 = 0 := by rw [h 168 (by decide)]; exact k_168_19
    have q_168_20 : M 168 20 = 0 := by rw [h 168 (by decide)]; exact k_168_20
    have q_168_26 : M 168 26 = 0 := by rw [h 168 (by decide)]; exact k_168_26
    have q_168_59 : M 168 59 = 0 := by rw [h 168 (by decide)]; exact k_168_59
    have q_168_90 : M 168 90 = -2 := by rw [h 168 (by decide)]; exact k_168_90
    have q_168_91 : M 168 91 = 0 := by rw [h 168 (by decide)]; exact k_168_91
    have q_4_1 : M 4 1 = 0 := by rw [h 4 (by decide)]; exact k_4_1
    have q_3_5 : M 3 5 = 0 := by rw [h 3 (by decide)]; exact k_3_5
    have q_6_1 : M 6 1 = 0 := by rw [h 6 (by decide)]; exact k_6_1
    have q_3_6 : M 3 6 = 0 := by rw [h 3 (by decide)]; exact k_3_6
    have q_3_7 : M 3 7 = -2 := by rw [h 3 (by decide)]; exact k_3_7
    have q_98_1 : M 98 1 = 0 := by rw [h 98 (by decide)]; exact k_98_1
    refine ⟨⟨⟨by omega, by omega⟩, by omega, ?_⟩, by omega, by omega, fun z => ?_, KC_0 h⟩
    · rw [q_168_59]
      rfl
    · rw [q_3_6] at z
      exact absurd rfl z
end BEGIN
