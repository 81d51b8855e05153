/-! ALL CALLS; the law's run, for every script -/
def RE (L : Nat) (xs : Nat → Int32) (k : Nat) (h : eg_H) : Prop := ∃ H : FH, h = fm_E H ∧ RR (VV KC WW) L xs k H
theorem lb_0 {L : Nat} {xs : Nat → Int32} {H : FH} (h1 : H.1 0 = some (.inl (.int, L))) (h2 : ∀ j : Nat, Int32.ofInt (H.2.1 0 j) = xs j) : lbase L xs (fm_E H) := by
  refine ⟨?_, ⟨_, rfl⟩, _, rfl⟩
  show (shp H.1 0).map (fun s => cellE s (H.2.1 0)) = _
  have e : shp H.1 0 = H.1 0 := rfl
  rw [e, h1]
  show (some (Sum.inl (FieldType.int, L, fun i : Nat => Value.int (Int32.ofInt (H.2.1 0 i)))) : Option eg_C) = _
  have ef : (fun i : Nat => Value.int (Int32.ofInt (H.2.1 0 i))) = fun j => Value.int (xs j) := by
    funext i
    rw [h2]
  rw [ef]
theorem lcI_of {L d jc jm : Nat} {xs : Nat → Int32} {as : List Value} (hc : ca_I (VV KC WW) L xs d jc jm as) : lcI (RE L xs) (lbase L xs) d jc jm as := by
  intro k h hr
  obtain ⟨H, e, hR⟩ := hr
  rw [e]
  have F := hc k H hR
  unfold fm_Y at F
  refine eg_Y.imp F (fun v h1 q => ?_)
  obtain ⟨w, H1, rfl, rfl, x, rfl, ⟨a1, a2⟩, q2⟩ := q
  refine ⟨lb_0 (by rw [a1]; exact hR.1.1.1) (fun j => by rw [a2]; exact hR.1.1.2 j), Int32.ofInt x, rfl, ?_⟩
  refine eg_Y.imp q2 (fun v2 h2 q3 => ?_)
  obtain ⟨w2, H2, rfl, rfl, rfl, hR2⟩ := q3
  exact ⟨rfl, H2, rfl, hR2⟩
theorem lcJ_of {L d jc jm : Nat} {xs : Nat → Int32} {as : List Value} (hc : ca_J (VV KC WW) L xs d jc jm as) : lcJ (RE L xs) (lbase L xs) d jc jm as := by
  intro k h hr
  obtain ⟨H, e, hR⟩ := hr
  rw [e]
  have F := hc k H hR
  unfold fm_Y at F
  refine eg_Y.imp F (fun v h1 q => ?_)
  obtain ⟨w, H1, rfl, rfl, x, rfl, ⟨a1, a2⟩, q2⟩ := q
  refine ⟨lb_0 (by rw [a1]; exact hR.1.1.1) (fun j => by rw [a2]; exact hR.1.1.2 j), Int64.ofInt x, rfl, ?_⟩
  refine eg_Y.imp q2 (fun v2 h2 q3 => ?_)
  obtain ⟨w2, H2, rfl, rfl, rfl, hR2⟩ := q3
  exact ⟨rfl, H2, rfl, hR2⟩
theorem i32_r0 (a : Int32) : -2147483648 ≤ a.toInt ∧ a.toInt ≤ 2147483647 := by
  have h1 := Int32.le_toInt a
  have h2 := Int32.toInt_lt a
  omega
theorem i64_r0 (a : Int64) : -9223372036854775808 ≤ a.toInt ∧ a.toInt ≤ 9223372036854775807 := by
  have h1 := Int64.le_toInt a
  have h2 := Int64.toInt_lt a
  omega
theorem VK : keepsV (VV KC WW) := VV_keeps KC_keeps WW_keeps
/-- on every script of at most 3072 ints the law's run answers 1 -/
theorem law_all : law_pure 3072 := by
  intro L xs hL
  refine law_of (σ := ((fun _ => 0), (fun _ => 0), some (.inl (.int, L, fun j => .int (xs j))))) rfl (fun _ _ => rfl) ?_
  have F := law_loop (R := RE L xs) (d := 1000) (L := L) (xs := xs) (by omega) (fun k h hr => ?_) (fun k h hr h6 => ?_) (fun k h hr => ?_)
    (fun a b c e f => ?_) (fun a => ?_) ?_ (fun a => ?_) (fun a b c => ?_) (fun a b => ?_) (fun a => ?_) (fun a => ?_) (fun a b c => ?_) (fun a b c e f => ?_) (fun a b c => ?_)
    ?_ ?_ (fun a => ?_) (fun a b => ?_) (fun a => ?_) ?_ (fun a => ?_) (fun a b => ?_) (fun a b => ?_) (fun a b e => ?_) (fun a => ?_) (fun a => ?_)
    L 0 (fm_E (sh0 L, Ms xs, 265, 2656208)) ⟨_, rfl, RR_0⟩ (by omega) (by omega)
  · rw [E0 (σ := ((fun _ => 0), (fun _ => 0), some (.inl (.int, L, fun j => .int (xs j))))) rfl] at F
    exact ⟨kdL, rfl, F⟩
  · obtain ⟨H, rfl, hR⟩ := hr
    exact lb_0 hR.1.1.1 hR.1.1.2
  · obtain ⟨H, rfl, hR⟩ := hr
    have b1 := hR.1.2.1.2.1
    have b2 := hR.1.2.1.2.2
    show H.2.2.1 ≤ 3 + 350723 ∧ H.2.2.2 ≤ 8050080
    omega
  · obtain ⟨H, rfl, hR⟩ := hr
    exact ⟨H, rfl, RR_next hR⟩
  · have q := call_feed (L := L) (xs := xs) (d := 997) VK (i32_r0 a) (i32_r0 b) (i32_r0 c) (i32_r0 e) (i32_r0 f)
    simp only [Int32.ofInt_toInt, Int64.ofInt_toInt] at q
    exact lcI_of q
  · have q := call_end (L := L) (xs := xs) (d := 999) VK (i32_r0 a)
    simp only [Int32.ofInt_toInt, Int64.ofInt_toInt] at q
    exact lcI_of q
  · have q := call_out (V := VV KC WW) (L := L) (xs := xs) (d := 999)
    exact lcI_of q
  · have q := call_outWord (V := VV KC WW) (L := L) (xs := xs) (d := 998)  (i32_r0 a)
    simp only [Int32.ofInt_toInt, Int64.ofInt_toInt] at q
    exact lcJ_of q
  · have q := call_make (L := L) (xs := xs) (d := 995) VK (i32_r0 a) (i32_r0 b) (i32_r0 c)
    simp only [Int32.ofInt_toInt, Int64.ofInt_toInt] at q
    exact lcI_of q
  · have q := call_tie (L := L) (xs := xs) (d := 995) VK (i32_r0 a) (i32_r0 b)
    simp only [Int32.ofInt_toInt, Int64.ofInt_toInt] at q
    exact lcI_of q
  · have q := call_drop (L := L) (xs := xs) (d := 995) VK (i32_r0 a)
    simp only [Int32.ofInt_toInt, Int64.ofInt_toInt] at q
    exact lcI_of q
  · have q := call_write (L := L) (xs := xs) (d := 995) VK (i32_r0 a)
    simp only [Int32.ofInt_toInt, Int64.ofInt_toInt] at q
    exact lcI_of q
  · have q := call_fill (L := L) (xs := xs) (d := 995) VK (i32_r0 a) (i32_r0 b) (i32_r0 c)
    simp only [Int32.ofInt_toInt, Int64.ofInt_toInt] at q
    exact lcI_of q
  · have q := call_own (L := L) (xs := xs) (d := 998) VK (i32_r0 a) (i32_r0 b) (i32_r0 c) (i32_r0 e) (i32_r0 f)
    simp only [Int32.ofInt_toInt, Int64.ofInt_toInt] at q
    exact lcI_of q
  · have q := call_freeze (L := L) (xs := xs) (d := 876)  (i32_r0 a) (i32_r0 b) (i32_r0 c)
    simp only [Int32.ofInt_toInt, Int64.ofInt_toInt] at q
    exact lcI_of q
  · have q := call_astray (C := KC) (W := WW) (L := L) (xs := xs) (d := 998)
    exact lcI_of q
  · have q := call_image (C := KC) (W := WW) (L := L) (xs := xs) (d := 998)
    exact lcI_of q
  · have q := call_imageWord (C := KC) (W := WW) (L := L) (xs := xs) (d := 998)  (i32_r0 a)
    simp only [Int32.ofInt_toInt, Int64.ofInt_toInt] at q
    exact lcJ_of q
  · have q := call_patch (W := WW) (L := L) (xs := xs) (d := 998) KC_keeps (i32_r0 a) (i32_r0 b)
    simp only [Int32.ofInt_toInt, Int64.ofInt_toInt] at q
    exact lcI_of q
  · have q := call_keep (L := L) (xs := xs) (d := 996) KC_keeps WW_keeps (i32_r0 a)
    simp only [Int32.ofInt_toInt, Int64.ofInt_toInt] at q
    exact lcI_of q
  · have q := call_mount (L := L) (xs := xs) (d := 988)
    exact lcI_of q
  · have q := call_find (L := L) (xs := xs) (d := 992)  (i32_r0 a)
    simp only [Int32.ofInt_toInt, Int64.ofInt_toInt] at q
    exact lcI_of q
  · have q := call_about (L := L) (xs := xs) (d := 992)  (i32_r0 a) (i32_r0 b)
    simp only [Int32.ofInt_toInt, Int64.ofInt_toInt] at q
    exact lcJ_of q
  · have q := call_entry (L := L) (xs := xs) (d := 993)  (i32_r0 a) (i32_r0 b)
    simp only [Int32.ofInt_toInt, Int64.ofInt_toInt] at q
    exact lcI_of q
  · have q := call_read (L := L) (xs := xs) (d := 992)  (i32_r0 a) (i64_r0 b) (i32_r0 e)
    simp only [Int32.ofInt_toInt, Int64.ofInt_toInt] at q
    exact lcI_of q
  · have q := call_target (L := L) (xs := xs) (d := 993)  (i32_r0 a)
    simp only [Int32.ofInt_toInt, Int64.ofInt_toInt] at q
    exact lcI_of q
  · have q := call_place (L := L) (xs := xs) (d := 993)  (i32_r0 a)
    simp only [Int32.ofInt_toInt, Int64.ofInt_toInt] at q
    exact lcI_of q
