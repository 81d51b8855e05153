/-! FREEZING: data: bounds -/
def bB5 (B : Nat) : Prop := B = 4096 ∨ B = 8192 ∨ B = 16384 ∨ B = 32768 ∨ B = 65536
theorem bB5_lg {lg : Int} (h : 12 ≤ lg ∧ lg ≤ 16) : ∃ B : Nat, (2 : Int) ^ lg.toNat = B ∧ bB5 B := by
  obtain ⟨n, rfl⟩ : ∃ n : Nat, lg = n := ⟨lg.toNat, by omega⟩
  rw [Int.toNat_natCast]
  have c : n = 12 ∨ n = 13 ∨ n = 14 ∨ n = 15 ∨ n = 16 := by omega
  rcases c with c | c | c | c | c <;> rw [c]
  · exact ⟨4096, by decide, Or.inl rfl⟩
  · exact ⟨8192, by decide, Or.inr (Or.inl rfl)⟩
  · exact ⟨16384, by decide, Or.inr (Or.inr (Or.inl rfl))⟩
  · exact ⟨32768, by decide, Or.inr (Or.inr (Or.inr (Or.inl rfl)))⟩
  · exact ⟨65536, by decide, Or.inr (Or.inr (Or.inr (Or.inr rfl)))⟩
theorem bB5_r {B : Nat} (h : bB5 B) : 4096 ≤ B ∧ B ≤ 65536 := by
  rcases h with h | h | h | h | h <;> omega
/-- blocks and rest -/
theorem bkN_b {op : Int} {B : Nat} {n : Int} (hB : bB5 B) (hn : 0 ≤ n) : (0 ≤ bkN op B n ∧ bkN op B n ≤ n / 4096 + 1) ∧ (bkN op B n - 1) * B < n - rsN op B n + (if bkN op B n = 0 then 1 else 0) ∧ n - rsN op B n ≤ bkN op B n * B ∧ (0 ≤ rsN op B n ∧ rsN op B n ≤ n ∧ rsN op B n < B) ∧ (rsN op B n ≠ 0 → bkN op B n * B = n - rsN op B n) := by
  unfold bkN rsN
  rcases hB with h | h | h | h | h <;> (rw [h]; split <;> (refine ⟨by omega, ?_, by omega, by omega, by omega⟩; split <;> omega))
/-- a data state's bounds: k nodes, S bytes of files -/
def dqI (s : DS) (k : Nat) (S : Int) (B : Nat) : Prop := (((dI s).length : Int) + (dF s).length ≤ 96 + S ∧ ((dB s).length : Int) ≤ k + S / 4096 ∧ (dF s).length ≤ B) ∧ (∃ A : Int, 0 ≤ A ∧ A + (dF s).length ≤ S ∧ 4096 * (dT s).length ≤ 2 * A + (dF s).length) ∧ (∀ b ∈ dB s, 0 ≤ b ∧ b ≤ 16842752) ∧ (∀ t ∈ dT s, (0 ≤ t.1 ∧ t.1 ≤ 131072) ∧ 0 ≤ t.2 ∧ t.2 ≤ 16842752) ∧ ∀ j x : Int, -1 ≤ dN s j x ∧ dN s j x ≤ 200000
theorem setN_r {g : Int → Int → Int} {j x v : Int} (h : ∀ j x : Int, -1 ≤ g j x ∧ g j x ≤ 200000) (hv : -1 ≤ v ∧ v ≤ 200000) : ∀ j2 x2 : Int, -1 ≤ setN g j x v j2 x2 ∧ setN g j x v j2 x2 ≤ 200000 := by
  intro j2 x2
  unfold setN
  split
  · exact hv
  · exact h j2 x2
section DINV
variable {op : Int} {B : Nat} {X : List Int} {x : Int} {s : DS}
theorem chk_len (i : Nat) : ((chk X B i).length : Int) = max 0 (min (B : Int) ((X.length : Int) - i * B)) := by
  unfold chk
  rw [List.length_take, List.length_drop]
  have := Int.natCast_mul i B
  omega
/-- the first i blocks of a file -/
theorem bkD_q (hB : bB5 B) (hX : X.length ≤ 65536) (hb : ∀ b ∈ dB s, 0 ≤ b ∧ b ≤ 16842752) (h2 : dN s 2 x = 0 ∧ dN s 3 x = 0) (hr : ∀ j x : Int, -1 ≤ dN s j x ∧ dN s j x ≤ 200000) : ∀ i : Nat, i ≤ 17 → (((dI (bkD op B X x s i)).length : Int) ≤ (dI s).length + min (i * B : Int) X.length ∧ (dB (bkD op B X x s i)).length = (dB s).length + i) ∧ (dF (bkD op B X x s i) = dF s ∧ dT (bkD op B X x s i) = dT s) ∧ (∀ b ∈ dB (bkD op B X x s i), 0 ≤ b ∧ b ≤ 16842752) ∧ (dN (bkD op B X x s i) 2 x = i ∧ 0 ≤ dN (bkD op B X x s i) 3 x ∧ dN (bkD op B X x s i) 3 x ≤ min (i * B : Int) X.length) ∧ (∀ j y : Int, -1 ≤ dN (bkD op B X x s i) j y ∧ dN (bkD op B X x s i) j y ≤ 200000) ∧ (∀ j y : Int, y ≠ x ∨ j ≠ 2 ∧ j ≠ 3 → dN (bkD op B X x s i) j y = dN s j y)
  | 0, _ => by
    refine ⟨⟨?_, rfl⟩, ⟨rfl, rfl⟩, hb, ⟨h2.1, ?_, ?_⟩, hr, fun _ _ _ => rfl⟩
    · show ((dI s).length : Int) ≤ (dI s).length + min (((0 : Nat) : Int) * B) X.length
      rw [show ((0 : Nat) : Int) * (B : Int) = 0 by simp]
      omega
    · show 0 ≤ dN s 3 x
      omega
    · show dN s 3 x ≤ min (((0 : Nat) : Int) * B) X.length
      rw [show ((0 : Nat) : Int) * (B : Int) = 0 by simp]
      omega
  | i + 1, hi => by
    obtain ⟨⟨a1, a2⟩, ⟨a3, a4⟩, a5, ⟨a6, a7, a8⟩, a9, a10⟩ := bkD_q hB hX hb h2 hr i (by omega)
    have br := bB5_r hB
    have cl := chk_len (X := X) (B := B) i
    have im : ((i + 1 : Nat) : Int) * (B : Int) = i * B + B := by
      rw [show ((i + 1 : Nat) : Int) = (i : Int) + 1 from rfl, Int.add_mul, Int.one_mul]
    have i0 : (0 : Int) ≤ (i : Int) * B := by
      have := Int.natCast_nonneg (i * B)
      rw [Int.natCast_mul] at this
      exact this
    obtain ⟨t, ht⟩ : ∃ t, t = bkD op B X x s i := ⟨_, rfl⟩
    rw [← ht] at a1 a2 a3 a4 a5 a6 a7 a8 a9 a10
    obtain ⟨C, hC⟩ : ∃ C, C = chk X B i := ⟨_, rfl⟩
    rw [← hC] at cl
    have sn := stB_num op C (by omega)
    have sl := stB_len op C
    have e : bkD op B X x s (i + 1) = pbD op t x C := by
      show pbD op (bkD op B X x s i) x (chk X B i) = _
      rw [ht, hC]
    rw [e]
    refine ⟨⟨?_, ?_⟩, ⟨a3, a4⟩, ?_, ⟨?_, ?_, ?_⟩, ?_, ?_⟩
    · show (((if C = List.replicate C.length 0 then dI t else dI t ++ (stB op C).1).length : Nat) : Int) ≤ _
      rw [im]
      split
      · omega
      · rw [List.length_append]
        omega
    · show (dB t ++ [if C = List.replicate C.length 0 then 0 else (stB op C).2]).length = _
      rw [List.length_append, a2]
      rfl
    · intro b hb2
      have hb3 : b ∈ dB t ++ [if C = List.replicate C.length 0 then 0 else (stB op C).2] := hb2
      rcases List.mem_append.1 hb3 with z | z
      · exact a5 b z
      · rw [List.mem_singleton.1 z]
        split <;> omega
    · show setN _ 2 x (dN t 2 x + 1) 2 x = _
      rw [setN_at, a6]
      rfl
    · show 0 ≤ setN (setN (dN t) 3 x _) 2 x (dN t 2 x + 1) 3 x
      rw [setN_ne (Or.inl (by decide)), setN_at]
      split <;> omega
    · show setN (setN (dN t) 3 x _) 2 x (dN t 2 x + 1) 3 x ≤ _
      rw [setN_ne (Or.inl (by decide)), setN_at, im]
      split <;> omega
    · refine setN_r (setN_r a9 ?_) ?_
      · split <;> omega
      · have := a9 2 x
        omega
    · intro j y hy
      show setN (setN (dN t) 3 x _) 2 x (dN t 2 x + 1) j y = _
      rw [setN_ne (by rcases hy with z | z; exact Or.inr z; exact Or.inl z.1), setN_ne (by rcases hy with z | z; exact Or.inr z; exact Or.inl z.2)]
      exact a10 j y hy
theorem clD_f : dF (clD op s) = [] := by
  unfold clD
  split
  · assumption
  · rfl
theorem clD_n : dN (clD op s) = dN s ∧ dB (clD op s) = dB s := by
  unfold clD
  split
  · exact ⟨rfl, rfl⟩
  · exact ⟨rfl, rfl⟩
theorem fi0_q (k : Nat) {S : Int} (hq : dqI s k S B) (hS : S ≤ 65536) (hk : k ≤ 2000) (h0 : 0 ≤ S) : (dI (fi0 op B X x s) = dI s ∧ dB (fi0 op B X x s) = dB s ∧ dF (fi0 op B X x s) = dF s ∧ dT (fi0 op B X x s) = dT s) ∧ (dN (fi0 op B X x s) 2 x = 0 ∧ dN (fi0 op B X x s) 3 x = 0) ∧ (∀ j y : Int, -1 ≤ dN (fi0 op B X x s) j y ∧ dN (fi0 op B X x s) j y ≤ 200000) := by
  obtain ⟨⟨q1, q2, q3⟩, ⟨A, A0, A1, A2⟩, q5, q6, q7⟩ := hq
  refine ⟨⟨rfl, rfl, rfl, rfl⟩, ⟨?_, ?_⟩, ?_⟩
  · show setN (setN (setN (setN _ 2 x 0) 3 x 0) 4 x (-1)) 5 x 0 2 x = 0
    rw [setN_ne (Or.inl (by decide)), setN_ne (Or.inl (by decide)), setN_ne (Or.inl (by decide)), setN_at]
  · show setN (setN (setN (setN _ 2 x 0) 3 x 0) 4 x (-1)) 5 x 0 3 x = 0
    rw [setN_ne (Or.inl (by decide)), setN_ne (Or.inl (by decide)), setN_at]
  · refine setN_r (setN_r (setN_r (setN_r (setN_r (setN_r q7 ?_) ?_) (by omega)) (by omega)) (by omega)) (by omega)
    · split <;> omega
    · omega
/-- a file more -/
theorem fiD_q (k : Nat) {S : Int} (hB : bB5 B) (hq : dqI s k S B) (h0 : 0 ≤ S) (hS : S + X.length ≤ 65536) (hk : k < 2000) : dqI (fiD op B X x s) (k + 1) (S + X.length) B := by
  have br := bB5_r hB
  obtain ⟨⟨f1, f2, f3, f4⟩, f5, f6⟩ := fi0_q (op := op) (B := B) (X := X) (x := x) k hq (by omega) (by omega) h0
  obtain ⟨⟨q1, q2, q3⟩, ⟨A, A0, A1, A2⟩, q5, q6, q7⟩ := hq
  obtain ⟨⟨m0, m1⟩, m2, m3, ⟨r0, r1, r2⟩, m4⟩ := bkN_b (op := op) (B := B) (n := X.length) hB (by omega)
  obtain ⟨m, hm⟩ : ∃ m : Nat, bkN op B X.length = m := ⟨(bkN op B X.length).toNat, by omega⟩
  rw [hm] at m0 m1 m2 m3 m4
  have K := bkD_q (op := op) (B := B) (X := X) (x := x) (s := fi0 op B X x s) hB (by omega) (by rw [f2]; exact q5) f5 f6 m (by omega)
  obtain ⟨t, ht⟩ : ∃ t, t = bkD op B X x (fi0 op B X x s) m := ⟨_, rfl⟩
  rw [← ht, f1, f2, f3, f4] at K
  obtain ⟨⟨a1, a2⟩, ⟨a3, a4⟩, a5, ⟨a6, a7, a8⟩, a9, a10⟩ := K
  have e : fiD op B X x s = fiR op B X x t := by
    unfold fiD
    rw [hm, Int.toNat_natCast, ht]
  rw [e]
  have sd : ((S + X.length) / 4096 : Int) ≥ S / 4096 + (X.length : Int) / 4096 := by omega
  unfold fiR
  by_cases c : rsN op B X.length = 0
  · rw [if_pos c]
    refine ⟨⟨?_, ?_, ?_⟩, ⟨A, A0, ?_, ?_⟩, a5, ?_, a9⟩
    · rw [a3]
      omega
    · omega
    · rw [a3]
      exact q3
    · rw [a3]
      omega
    · rw [a3, a4]
      exact A2
    · rw [a4]
      exact q6
  · rw [if_neg c]
    have m5 := m4 c
    obtain ⟨R, hR⟩ : ∃ R : Nat, rsN op B X.length = R := ⟨(rsN op B X.length).toNat, by omega⟩
    rw [hR] at r0 r1 r2 m5 ⊢
    rw [Int.toNat_natCast]
    have dl : (X.drop (X.length - R)).length = R := by
      rw [List.length_drop]
      omega
    by_cases c2 : (B : Int) < (dF t).length + (R : Int)
    · rw [if_pos c2]
      have tn : dF t ≠ [] := fun q => by
        rw [q] at c2
        have c3 : (B : Int) < ((0 : Nat) : Int) + (R : Int) := c2
        omega
      have ec : clD op t = (dI t ++ (stB op (dF t)).1, dB t, [], dT t ++ [(((dI t).length : Int), (stB op (dF t)).2)], dN t) := if_neg tn
      have sl := stB_len op (dF t)
      have sn := stB_num op (dF t) (by rw [a3]; omega)
      rw [ec]
      have tl : (dT t ++ [(((dI t).length : Int), (stB op (dF t)).2)]).length = (dT t).length + 1 := by
        rw [List.length_append]
        rfl
      refine ⟨⟨?_, ?_, ?_⟩, ⟨A + (dF t).length, by omega, ?_, ?_⟩, a5, ?_, ?_⟩
      · show (((dI t ++ (stB op (dF t)).1).length : Nat) : Int) + (([] ++ X.drop (X.length - R)).length : Nat) ≤ _
        rw [List.nil_append, dl, List.length_append]
        rw [a3] at sl c2 ⊢
        omega
      · show (((dB t).length : Nat) : Int) ≤ _
        omega
      · show ([] ++ X.drop (X.length - R)).length ≤ B
        rw [List.nil_append, dl]
        omega
      · show A + (dF t).length + (([] ++ X.drop (X.length - R)).length : Nat) ≤ _
        rw [List.nil_append, dl, a3]
        omega
      · show 4096 * (((dT t ++ [(((dI t).length : Int), (stB op (dF t)).2)]).length : Nat) : Int) ≤ 2 * (A + (dF t).length) + (([] ++ X.drop (X.length - R)).length : Nat)
        rw [List.nil_append, dl, tl, a4]
        rw [a3] at c2 ⊢
        omega
      · intro p hp
        have hp2 : p ∈ dT t ++ [(((dI t).length : Int), (stB op (dF t)).2)] := hp
        rcases List.mem_append.1 hp2 with z | z
        · rw [a4] at z
          exact q6 p z
        · rw [List.mem_singleton.1 z]
          show (0 ≤ ((dI t).length : Int) ∧ ((dI t).length : Int) ≤ 131072) ∧ 0 ≤ (stB op (dF t)).2 ∧ (stB op (dF t)).2 ≤ 16842752
          omega
      · refine setN_r (setN_r a9 ?_) ?_
        · show -1 ≤ (((dT t ++ [(((dI t).length : Int), (stB op (dF t)).2)]).length : Nat) : Int) ∧ (((dT t ++ [(((dI t).length : Int), (stB op (dF t)).2)]).length : Nat) : Int) ≤ 200000
          rw [tl, a4]
          omega
        · show -1 ≤ ((([] : List Int).length : Nat) : Int) ∧ ((([] : List Int).length : Nat) : Int) ≤ 200000
          decide
    · rw [if_neg c2]
      refine ⟨⟨?_, ?_, ?_⟩, ⟨A, A0, ?_, ?_⟩, a5, ?_, ?_⟩
      · show (((dI t).length : Nat) : Int) + ((dF t ++ X.drop (X.length - R)).length : Nat) ≤ _
        rw [List.length_append, dl, a3]
        omega
      · show (((dB t).length : Nat) : Int) ≤ _
        omega
      · show (dF t ++ X.drop (X.length - R)).length ≤ B
        rw [List.length_append, dl]
        omega
      · show A + ((dF t ++ X.drop (X.length - R)).length : Nat) ≤ _
        rw [List.length_append, dl, a3]
        omega
      · show 4096 * (((dT t).length : Nat) : Int) ≤ 2 * A + ((dF t ++ X.drop (X.length - R)).length : Nat)
        rw [List.length_append, dl, a3, a4]
        omega
      · show ∀ p ∈ dT t, _
        rw [a4]
        exact q6
      · refine setN_r (setN_r a9 ?_) ?_
        · rw [a4]
          omega
        · rw [a3]
          omega
theorem dtD_q {M : FM} (hW : twR M) {L : List Int} (hP : nuP M L) (hB : bB5 B) : ∀ k : Nat, k ≤ L.length → dqI (dtD M op B L k) k (szS M L k) B ∧ 0 ≤ szS M L k
  | 0, _ => by
    refine ⟨⟨⟨?_, ?_, ?_⟩, ⟨0, by omega, ?_, ?_⟩, (fun b hb => by cases hb), (fun t ht => by cases ht), fun j y => ?_⟩, ?_⟩
    · show (((List.replicate 96 (0 : Int)).length : Nat) : Int) + ((([] : List Int).length : Nat) : Int) ≤ 96 + 0
      decide
    · show ((([] : List Int).length : Nat) : Int) ≤ ((0 : Nat) : Int) + 0 / 4096
      decide
    · exact Nat.zero_le _
    · show (0 : Int) + ((([] : List Int).length : Nat) : Int) ≤ 0
      decide
    · show 4096 * ((([] : List (Int × Int)).length : Nat) : Int) ≤ 2 * 0 + ((([] : List Int).length : Nat) : Int)
      decide
    · show (-1 : Int) ≤ 0 ∧ (0 : Int) ≤ 200000
      decide
    · show (0 : Int) ≤ 0
      decide
  | k + 1, hk => by
    obtain ⟨ih, i0⟩ := dtD_q hW hP hB k (by omega)
    have LL := nuP_len hW hP
    have sz := szS_le2 hW hP (k + 1)
    obtain ⟨x, hx⟩ : ∃ x, L[k]? = some x := ⟨_, List.getElem?_eq_getElem (by omega)⟩
    have xl := (hP.2 x (List.mem_of_getElem? hx)).1
    have b := (hW.2.1.2 x xl.1 xl.2).1
    have e : szS M L (k + 1) = szS M L k + (if M 171 x = 2 then M 180 x else 0) := by
      show szS M L k + (match L[k]? with
        | none => 0
        | some x => if M 171 x = 2 then M 180 x else 0) = _
      rw [hx]
    have e2 : dtD M op B L (k + 1) = dtX M op B L k (dtD M op B L k) x := by
      show (match L[k]? with
        | none => dtD M op B L k
        | some x => dtX M op B L k (dtD M op B L k) x) = _
      rw [hx]
    have MORE : ∀ n : Int, 0 ≤ n → dqI (dtD M op B L k) (k + 1) (szS M L k + n) B := by
      intro n hn
      obtain ⟨⟨q1, q2, q3⟩, ⟨A, A0, A1, A2⟩, q5, q6, q7⟩ := ih
      exact ⟨⟨by omega, by omega, q3⟩, ⟨A, A0, by omega, A2⟩, q5, q6, q7⟩
    rw [e2, e]
    unfold dtX
    by_cases c : M 171 x = 2
    · rw [if_pos c, if_pos c]
      rw [e, if_pos c] at sz
      refine ⟨?_, by omega⟩
      have fl : ((fbL M x).length : Int) = M 180 x := by
        unfold fbL
        rw [sl_len]
        omega
      split
      · rename_i y _
        obtain ⟨p1, p2, p3, p4, p5⟩ := MORE (M 180 x) b.2
        refine ⟨p1, p2, p3, p4, fun j z => ?_⟩
        show -1 ≤ (if z = x then dN (dtD M op B L k) j y else dN (dtD M op B L k) j z) ∧ (if z = x then dN (dtD M op B L k) j y else dN (dtD M op B L k) j z) ≤ 200000
        split
        · exact p5 j y
        · exact p5 j z
      · have := fiD_q (op := op) (B := B) (X := fbL M x) (x := x) k hB ih i0 (by omega) (by omega)
        rw [fl] at this
        exact this
    · rw [if_neg c, if_neg c]
      refine ⟨?_, by omega⟩
      exact MORE 0 (by omega)
end DINV
