/-! FREEZING: names and an inode's beginning; the reference -/
section MBEGIN
variable {d nx zl : Nat} {K : Option TV → FH → Prop} {sh : Nat → Option Shp} {M : FM} {q b st cl : Nat} {op : Int}
theorem leL_1 (v : Int) : leL v 1 = [v % 256] := rfl
theorem addName_Y {e : Int} {R : List Int} (hq : mrS sh q b st cl) (hop : 0 ≤ op ∧ op ≤ 15) (h69 : M 168 69 = op) (he : 0 ≤ e ∧ e < 2000) (hn : 0 ≤ M 185 e ∧ 0 ≤ M 186 e ∧ M 185 e + M 186 e ≤ 32768) (h : mrO M q b st cl (1 - op % 2) R) (k : ∀ M2 : FM, maF M M2 q → mrO M2 q b st cl (1 - op % 2) (R ++ nmL M e) → K none (sh, M2, nx, zl)) : fm_Y (d + 21) 311 [.ref 168, .ref q, .int (Int32.ofInt e)] (sh, M, nx, zl) K := by
  have q12 := hq.2.1
  refine m311 [fx 168, gr q, ti e] ?_
  have L : ∀ (N i : Nat) (M1 : FM), (M 186 e).toNat - i < N → (i : Int) ≤ M 186 e → maF M M1 q → mrO M1 q b st cl (1 - op % 2) (R ++ sl (M 187) (M 185 e) i) → fm_X (d + 20) kd311 2 [some (fx 168), some (gr q), some (ti e), some (ti i)] [] (sh, M1, nx, zl) K := by
    intro N
    induction N with
    | zero =>
      intro i M1 hN
      omega
    | succ N ih =>
      intro i M1 hN hi f1 h1
      have k185 : M1 185 = M 185 := f1.1 185 (by omega) (by omega) (by omega) (by omega) (by omega) (by omega)
      have k186 : M1 186 = M 186 := f1.1 186 (by omega) (by omega) (by omega) (by omega) (by omega) (by omega)
      have k187 : M1 187 = M 187 := f1.1 187 (by omega) (by omega) (by omega) (by omega) (by omega) (by omega)
      have c69 : M1 168 69 = op := by rw [f1.2 69 (by decide) (by decide) (by decide)]; exact h69
      have v186 : M1 186 e = M 186 e := by rw [k186]
      have v185 : M1 185 e = M 185 e := by rw [k185]
      refine s311_2 (d + 20) K _ _ _ ?_
      refine ⟨by omega, ?_⟩
      refine ⟨by omega, fun w => ?_, fun w => ?_⟩
      · refine k M1 f1 ?_
        unfold nmL
        rw [show (M 186 e).toNat = i by omega]
        exact h1
      · refine ⟨by omega, ?_⟩
        refine ⟨by omega, ?_⟩
        refine ⟨by omega, ?_⟩
        refine addTo_Y (d := d) (n := 1) hq hop c69 (by omega) (by omega) h1 (fun M2 f2 h2 => ?_)
        refine ih (i + 1) M2 (by omega) (by omega) (maF_t f1 f2) ?_
        rw [leL_1, k187, v185, List.append_assoc, show ((M 187 (M 185 e + i) + 128) % 256 - 128) % 256 = M 187 (M 185 e + i) % 256 by omega, ← sl_back] at h2
        exact h2
  refine L ((M 186 e).toNat + 1) 0 M (by omega) (by omega) (maF_r M q) ?_
  show mrO M q b st cl (1 - op % 2) (R ++ [])
  rw [List.append_nil]
  exact h
/-- what beginning an inode leaves -/
def biF (M M2 : FM) (x : Int) : Prop := (∀ c : Nat, c ≠ 168 → (c < 188 ∨ 203 < c) → (c < 226 ∨ 229 < c) → c ≠ 215 → c ≠ 234 → M2 c = M c) ∧ (∀ i : Int, i ≠ 28 → i ≠ 31 → i ≠ 42 → i ≠ 66 → M2 168 i = M 168 i) ∧ (∀ y : Int, y ≠ x → M2 234 y = M 234 y)
theorem beginInode_Y {x ty : Int} {R ids : List Int} (hop : 0 ≤ op ∧ op ≤ 15) (h69 : M 168 69 = op) (hx : 0 ≤ x ∧ x < 2000) (hty : 0 ≤ ty ∧ ty ≤ 100) (h172 : 0 ≤ M 172 x ∧ M 172 x ≤ 4095) (h173 : -2147483648 ≤ M 173 x ∧ M 173 x ≤ 2147483647) (h174 : -2147483648 ≤ M 174 x ∧ M 174 x ≤ 2147483647) (h175 : -2147483648 ≤ M 175 x ∧ M 175 x ≤ 2147483647) (h214 : 0 ≤ M 214 x ∧ M 214 x ≤ 2000) (hid : rdI M ids) (hir : ∀ v ∈ ids, -2147483648 ≤ v ∧ v ≤ 2147483647) (hil : ids.length ≤ 4000) (ho : M 173 x ∈ ids) (hg : M 174 x ∈ ids) (h : mrO M 226 227 228 229 (1 - op % 2) R)
    (k : ∀ M2 : FM, biF M M2 x → M2 234 x = M 226 1 → rdI M2 ids → mrO M2 226 227 228 229 (1 - op % 2) (R ++ cmL ty (M 172 x) (ids.idxOf (M 173 x)) (ids.idxOf (M 174 x)) (M 175 x) (M 214 x)) → K none (sh, M2, nx, zl)) : fm_Y (d + 21) 305 [.ref 168, .int (Int32.ofInt x), .int (Int32.ofInt ty)] (sh, M, nx, zl) K := by
  have i1 : ids.idxOf (M 173 x) < ids.length := List.idxOf_lt_length_iff.2 ho
  have i2 : ids.idxOf (M 174 x) < ids.length := List.idxOf_lt_length_iff.2 hg
  have nx1 : nuX ids (M 173 x) = ids := if_pos ho
  have nx2 : nuX ids (M 174 x) = ids := if_pos hg
  have MF : ∀ {A A2 : FM} {S : List Int}, mrO A 226 227 228 229 (1 - op % 2) S → (∀ c : Nat, 226 ≤ c → c ≤ 229 → A2 c = A c) → mrO A2 226 227 228 229 (1 - op % 2) S := by
    intro A A2 S hA e
    unfold mrO mrC at *
    rw [e 226 (by omega) (by omega), e 227 (by omega) (by omega), e 228 (by omega) (by omega), e 229 (by omega) (by omega)]
    exact hA
  refine m305 [fx 168, ti x, ti ty] ?_
  refine ⟨by omega, ?_⟩
  obtain ⟨P, gP⟩ : ∃ P : FM, P = pq M 234 x (M 226 1) := ⟨_, rfl⟩
  have po : ∀ c : Nat, c ≠ 234 → P c = M c := fun c hc => by rw [gP, pq_o _ _ _ hc]
  have p168 : P 168 = M 168 := po 168 (by omega)
  have T : (o_al 0 (o_al 0 (o_get 12 83 83 (o_il 2 (o_i2l (o_ic 2 (o_callv (d + 20) 306 3 12 (o_al 0 (o_al 0 (o_get 12 83 83 (o_al 0 (o_get 12 7 7 (o_il 1 (o_iald (o_i2l (o_ic 2 (o_callv (d + 20) 306 3 12 (o_al 0 (b305_41 (d + 20) (fW (d + 20) kd305 K) K)))))))))))))))))) : FC) [some (fx 168), some (ti x), some (ti ty)] [] (sh, P, nx, zl) := by
    refine ⟨by omega, ?_⟩
    refine addTo_Y (d := d) (n := 2) (mr226 sh) hop (by rw [p168]; exact h69) (by omega) (by omega) (MF h (fun c c1 c2 => po c (by omega))) (fun M1 f1 w1 => ?_)
    have k172 : M1 172 = M 172 := by rw [f1.1 172 (by omega) (by omega) (by omega) (by omega) (by omega) (by omega), po 172 (by omega)]
    have v172 : M1 172 x = M 172 x := by rw [k172]
    refine ⟨by omega, ?_⟩
    refine ⟨by omega, ?_⟩
    refine addTo_Y (d := d) (n := 2) (mr226 sh) hop (by rw [f1.2 69 (by decide) (by decide) (by decide), p168]; exact h69) (by omega) (by omega) w1 (fun M2 f2 w2 => ?_)
    have g2 := maF_t f1 f2
    have v173 : M2 173 x = M 173 x := by rw [g2.1 173 (by omega) (by omega) (by omega) (by omega) (by omega) (by omega), po 173 (by omega)]
    have d2 : rdI M2 ids := by
      unfold rdI at *
      rw [g2.2 66 (by decide) (by decide) (by decide), g2.1 215 (by omega) (by omega) (by omega) (by omega) (by omega) (by omega), p168, po 215 (by omega)]
      exact hid
    refine ⟨by omega, ?_⟩
    rw [v173]
    refine idOf_Y (d := d + 19) d2 hir h173 (Or.inr ⟨ho, hil⟩) (fun M3 f3 n3 d3 => ?_)
    rw [nx1] at d3 ⊢
    refine ⟨by omega, ?_⟩
    refine addTo_Y (d := d) (n := 2) (mr226 sh) hop (by rw [n3 69 (by decide), g2.2 69 (by decide) (by decide) (by decide), p168]; exact h69) (by omega) (by omega) (MF w2 (fun c c1 c2 => f3 c (by omega) (by omega))) (fun M4 f4 w4 => ?_)
    have v174 : M4 174 x = M 174 x := by rw [f4.1 174 (by omega) (by omega) (by omega) (by omega) (by omega) (by omega), f3 174 (by omega) (by omega), g2.1 174 (by omega) (by omega) (by omega) (by omega) (by omega) (by omega), po 174 (by omega)]
    have d4 : rdI M4 ids := by
      unfold rdI at *
      rw [f4.2 66 (by decide) (by decide) (by decide), f4.1 215 (by omega) (by omega) (by omega) (by omega) (by omega) (by omega)]
      exact d3
    refine ⟨by omega, ?_⟩
    rw [v174]
    refine idOf_Y (d := d + 19) d4 hir h174 (Or.inr ⟨hg, hil⟩) (fun M5 f5 n5 d5 => ?_)
    rw [nx2] at d5 ⊢
    refine ⟨by omega, ?_⟩
    refine addTo_Y (d := d) (n := 2) (mr226 sh) hop (by rw [n5 69 (by decide), f4.2 69 (by decide) (by decide) (by decide), n3 69 (by decide), g2.2 69 (by decide) (by decide) (by decide), p168]; exact h69) (by omega) (by omega) (MF w4 (fun c c1 c2 => f5 c (by omega) (by omega))) (fun M6 f6 w6 => ?_)
    have C : ∀ c : Nat, c ≠ 168 → (c < 188 ∨ 203 < c) → (c < 226 ∨ 229 < c) → c ≠ 215 → M6 c = P c := fun c c1 c2 c3 c4 => by rw [f6.1 c c1 c2 (by omega) (by omega) (by omega) (by omega), f5 c c1 c4, f4.1 c c1 c2 (by omega) (by omega) (by omega) (by omega), f3 c c1 c4, g2.1 c c1 c2 (by omega) (by omega) (by omega) (by omega)]
    have N6 : ∀ i : Int, i ≠ 28 → i ≠ 31 → i ≠ 42 → i ≠ 66 → M6 168 i = M 168 i := fun i j1 j2 j3 j4 => by rw [f6.2 i j1 j2 j3, n5 i j4, f4.2 i j1 j2 j3, n3 i j4, g2.2 i j1 j2 j3, p168]
    have v175 : M6 175 x = M 175 x := by rw [C 175 (by omega) (by omega) (by omega) (by omega), po 175 (by omega)]
    refine ⟨by omega, ?_⟩
    refine ⟨by omega, ?_⟩
    refine addTo_Y (d := d) (n := 4) (mr226 sh) hop (by rw [N6 69 (by decide) (by decide) (by decide) (by decide)]; exact h69) (by omega) (by omega) w6 (fun M7 f7 w7 => ?_)
    have v214 : M7 214 x = M 214 x := by rw [f7.1 214 (by omega) (by omega) (by omega) (by omega) (by omega) (by omega), C 214 (by omega) (by omega) (by omega) (by omega), po 214 (by omega)]
    refine ⟨by omega, ?_⟩
    refine ⟨by omega, ?_⟩
    refine addTo_Y (d := d) (n := 4) (mr226 sh) hop (by rw [f7.2 69 (by decide) (by decide) (by decide), N6 69 (by decide) (by decide) (by decide) (by decide)]; exact h69) (by omega) (by omega) w7 (fun M8 f8 w8 => ?_)
    have g8 := maF_t f7 f8
    have C8 : ∀ c : Nat, c ≠ 168 → (c < 188 ∨ 203 < c) → (c < 226 ∨ 229 < c) → c ≠ 215 → M8 c = P c := fun c c1 c2 c3 c4 => by rw [g8.1 c c1 c2 (by omega) (by omega) (by omega) (by omega), C c c1 c2 c3 c4]
    refine k M8 ⟨fun c c1 c2 c3 c4 c5 => by rw [C8 c c1 c2 c3 c4, po c c5], fun i j1 j2 j3 j4 => by rw [g8.2 i j1 j2 j3, N6 i j1 j2 j3 j4], fun y hy => by rw [C8 234 (by omega) (by omega) (by omega) (by omega), gP, pq_ne _ _ _ _ hy]⟩ (by rw [C8 234 (by omega) (by omega) (by omega) (by omega), gP, pq_at]) ?_ ?_
    · unfold rdI at *
      rw [g8.2 66 (by decide) (by decide) (by decide), g8.1 215 (by omega) (by omega) (by omega) (by omega) (by omega) (by omega), f6.2 66 (by decide) (by decide) (by decide), f6.1 215 (by omega) (by omega) (by omega) (by omega) (by omega) (by omega)]
      exact d5
    · rw [v172, v175, v214] at w8
      unfold cmL
      simp only [List.append_assoc] at w8
      exact w8
  rw [gP] at T
  exact T
end MBEGIN
