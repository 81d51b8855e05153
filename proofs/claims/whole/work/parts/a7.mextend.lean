/-! CONTRACTS: the reference's extend -/
def exA (M : FM) (i : Int) : Int := if M 180 i = 0 then M 168 17 else M 179 i
def exP (M : FM) (i n k : Int) : Int := if M 171 k = 2 ∧ k ≠ i ∧ exA M i + M 180 i ≤ M 179 k then M 179 k + n else if k = i then exA M i else M 179 k
def meF (M M2 : FM) (i n : Int) : Prop :=
  M2 168 = ur (M 168) 17 (M 168 17 + n) ∧ M2 180 = ur (M 180) i (M 180 i + n) ∧ (∀ k : Int, 0 ≤ k → k < M 168 5 → M2 179 k = exP M i n k)
  ∧ ((∀ j : Int, j < exA M i + M 180 i → M2 181 j = M 181 j) ∧ ∀ j : Int, exA M i + M 180 i ≤ j → j < M 168 17 → M2 181 (j + n) % 256 = M 181 j % 256)
  ∧ ∀ c : Nat, c ≠ 168 → c ≠ 179 → c ≠ 180 → c ≠ 181 → M2 c = M c
section MEXTEND
variable {d nx zl : Nat} {K : Option TV → FH → Prop} {sh : Nat → Option Shp} {M : FM} {i n : Int}
/-- places of the files behind -/
theorem me91 {s : Int} (hN : 0 ≤ M 168 5 ∧ M 168 5 ≤ 2000) (hi : 0 ≤ i ∧ i < M 168 5) (hs : 0 ≤ s ∧ s ≤ 65536) (hr : ∀ k : Int, 0 ≤ k → k < M 168 5 → (1 ≤ M 171 k ∧ M 171 k ≤ 7) ∧ (M 171 k = 2 → 0 ≤ M 179 k ∧ M 179 k ≤ 65536))
    (k : ∀ M2 : FM, (∀ j : Int, 0 ≤ j → j < M 168 5 → M2 179 j = if M 171 j = 2 ∧ j ≠ i ∧ s ≤ M 179 j then M 179 j + n else M 179 j) → M2 180 = ur (M 180) i (M 180 i + n) → (∀ c : Nat, c ≠ 179 → c ≠ 180 → M2 c = M c) → K (some (ti s)) (sh, M2, nx, zl)) : ∀ (G : Nat) (q : Int) (M2 : FM), (M 168 5 - q).toNat < G → 0 ≤ q → q ≤ M 168 5 → (∀ j : Int, 0 ≤ j → j < q → M2 179 j = if M 171 j = 2 ∧ j ≠ i ∧ s ≤ M 179 j then M 179 j + n else M 179 j) → (∀ j : Int, q ≤ j → M2 179 j = M 179 j) → (∀ c : Nat, c ≠ 179 → M2 c = M c) → fm_X d kd259 91 [some (fx 168), some (ti i), some (ti n), some (ti s), some (ti q)] [] (sh, M2, nx, zl) K := by
  intro G
  induction G with
  | zero => intro q M2 h1; omega
  | succ G ih =>
    intro q M2 h1 h2 h3 a1 a2 a3
    have e168 : M2 168 5 = M 168 5 := by rw [a3 168 (by decide)]
    have e171 := a3 171 (by decide)
    have e180 := a3 180 (by decide)
    refine s259_91 d K _ _ _ ?_
    refine ⟨by omega, fun w => ?_, fun w => ?_⟩
    · refine ⟨by omega, ?_⟩
      refine ⟨by omega, ?_⟩
      refine k _ (fun j j0 j1 => ?_) ?_ (fun c c1 c2 => ?_)
      · rw [um_ne (by decide)]
        exact a1 j j0 (by omega)
      · rw [um_at, e180]
      · rw [um_ne c2]
        exact a3 c c1
    · have hq : q < M 168 5 := by omega
      have q1 := hr q h2 hq
      have eq := a2 q (by omega)
      have r1 : M2 171 q = M 171 q := by rw [e171]
      have ST : ∀ (v : Int), v = (if M 171 q = 2 ∧ q ≠ i ∧ s ≤ M 179 q then M 179 q + n else M 179 q) → b259_153 d (fW d kd259 K) K [some (fx 168), some (ti i), some (ti n), some (ti s), some (ti q)] [ti v, ti q, fx 179] (sh, M2, nx, zl) := by
        intro v hv
        refine ⟨by omega, ?_⟩
        refine ih (q + 1) _ (by omega) (by omega) (by omega) ?_ ?_ ?_
        · intro j j0 j1
          rw [um_at]
          by_cases e : j = q
          · rw [e, ur_at, hv]
          · rw [ur_ne e]
            exact a1 j j0 (by omega)
        · intro j j0
          rw [um_at, ur_ne (by omega)]
          exact a2 j (by omega)
        · intro c hc
          rw [um_ne hc]
          exact a3 c hc
      refine ⟨by omega, ?_⟩
      refine ⟨by omega, fun w2 => ?_, fun w2 => ?_⟩
      · refine ⟨by omega, ?_⟩
        refine ST _ ?_
        rw [eq, if_neg (fun z => by omega)]
      · refine ⟨by omega, fun w3 => ?_, fun w3 => ?_⟩
        · refine ⟨by omega, ?_⟩
          refine ST _ ?_
          rw [eq, if_neg (fun z => by omega)]
        · have q3 := q1.2 (by omega)
          refine ⟨by omega, ?_⟩
          refine ⟨by omega, fun w4 => ?_, fun w4 => ?_⟩
          · refine ⟨by omega, ?_⟩
            refine ST _ ?_
            rw [eq, if_neg (fun z => by omega)]
          · refine ⟨by omega, ?_⟩
            refine ST _ ?_
            rw [eq, if_pos (by omega)]
/-- bytes behind, from the last on -/
theorem me50 {s T : Int} (hs : 0 ≤ s) (hn0 : 0 ≤ n) (hT : M 168 17 = T) (hT2 : T + n ≤ 65536)
    (k : ∀ M2 : FM, (∀ j : Int, j < s → M2 181 j = M 181 j) → (∀ j : Int, s ≤ j → j < T → M2 181 (j + n) % 256 = M 181 j % 256) → M2 168 = ur (M 168) 17 (T + n) → (∀ c : Nat, c ≠ 181 → c ≠ 168 → M2 c = M c) → fm_X d kd259 91 [some (fx 168), some (ti i), some (ti n), some (ti s), some (ti 0)] [] (sh, M2, nx, zl) K) : ∀ (G : Nat) (q : Int) (M2 : FM), (q - s + 1).toNat < G → s - 1 ≤ q → q < T → (∀ j : Int, j ≤ q → M2 181 j = M 181 j) → (∀ j : Int, j < s → M2 181 j = M 181 j) → (∀ j : Int, q < j → j < T → M2 181 (j + n) % 256 = M 181 j % 256) → (∀ c : Nat, c ≠ 181 → M2 c = M c) → fm_X d kd259 50 [some (fx 168), some (ti i), some (ti n), some (ti s), some (ti q)] [] (sh, M2, nx, zl) K := by
  intro G
  induction G with
  | zero => intro q M2 h1; omega
  | succ G ih =>
    intro q M2 h1 h2 h3 a1 a2 a3 a4
    have e168 := a4 168 (by decide)
    refine s259_50 d K _ _ _ ?_
    refine ⟨by omega, fun w => ?_, fun w => ?_⟩
    · refine k _ (fun j hj => ?_) (fun j j0 j1 => ?_) ?_ (fun c c1 c2 => ?_)
      · rw [um_ne (by decide)]
        exact a2 j hj
      · rw [um_ne (by decide)]
        exact a3 j (by omega) j1
      · rw [um_at, e168, hT]
      · rw [um_ne c2]
        exact a4 c c1
    · refine ⟨by omega, ?_⟩
      refine ⟨by omega, ?_⟩
      have eq := a1 q (by omega)
      refine ih (q + -1) _ (by omega) (by omega) (by omega) ?_ ?_ ?_ ?_
      · intro j hj
        rw [um_at, ur_ne (by omega)]
        exact a1 j (by omega)
      · intro j hj
        rw [um_at, ur_ne (by omega)]
        exact a2 j hj
      · intro j j0 j1
        rw [um_at]
        by_cases e : j = q
        · rw [e, ur_at, eq]
          omega
        · rw [ur_ne (by omega)]
          exact a3 j (by omega) j1
      · intro c hc
        rw [um_ne hc]
        exact a4 c hc
theorem mextend_Y (hW : twR M) (hi : 0 ≤ i ∧ i < M 168 5) (hk : M 171 i = 2) (hn0 : 0 ≤ n) (h17 : M 168 17 + n ≤ 65536) (k : ∀ M2 : FM, meF M M2 i n → K (some (ti (exA M i + M 180 i))) (sh, M2, nx, zl)) : fm_Y (d + 1) 259 [.ref 168, .int (Int32.ofInt i), .int (Int32.ofInt n)] (sh, M, nx, zl) K := by
  have hN := hW.1.1
  have hB := hW.2.1.1
  have bi := hW.2.1.2 i hi.1 hi.2
  have bi2 := bi.2.1 hk
  have xa : 0 ≤ exA M i ∧ exA M i + M 180 i ≤ M 168 17 := by
    unfold exA
    split <;> omega
  have GO : ∀ v : Int, v = exA M i → b259_27 d (fW d kd259 K) K [some (fx 168), some (ti i), some (ti n), none, none] [ti v, ti i, fx 179] (sh, M, nx, zl) := by
    intro v hv
    refine ⟨by omega, ?_⟩
    obtain ⟨R, gR⟩ : ∃ R : FM, R = um M 179 (ur (M 179) i v) := ⟨_, rfl⟩
    have Ro : ∀ c : Nat, c ≠ 179 → R c = M c := fun c hc => by rw [gR, um_ne hc]
    have R9 : R 179 = ur (M 179) i v := by rw [gR, um_at]
    have R168 := Ro 168 (by decide)
    have R171 := Ro 171 (by decide)
    have R180 := Ro 180 (by decide)
    have R181 := Ro 181 (by decide)
    refine ⟨by omega, ?_⟩
    refine ⟨by omega, ?_⟩
    have es : R 179 i + R 180 i = exA M i + M 180 i := by rw [R9, ur_at, R180, hv]
    have et : R 168 17 = M 168 17 := by rw [R168]
    have TL : fm_X d kd259 50 [some (fx 168), some (ti i), some (ti n), some (ti (R 179 i + R 180 i)), some (ti (R 168 17 - 1))] [] (sh, R, nx, zl) K := by
      rw [es]
      refine me50 (M := R) (T := M 168 17) (by omega) hn0 et h17 (fun M2 b1 b2 b3 b4 => ?_) ((M 168 17).toNat + 2) _ R (by omega) (by omega) (by omega) (fun _ _ => rfl) (fun _ _ => rfl) (fun j j0 j1 => by omega) (fun _ _ => rfl)
      have f5 : M2 168 5 = M 168 5 := by rw [b3, ur_ne (by omega), R168]
      have f171 : M2 171 = M 171 := by rw [b4 171 (by decide) (by decide), R171]
      have f179 : M2 179 = ur (M 179) i v := by rw [b4 179 (by decide) (by decide), R9]
      have f180 : M2 180 = M 180 := by rw [b4 180 (by decide) (by decide), R180]
      refine me91 (M := M2) (by omega) (by omega) (by omega) (fun j j0 j1 => ?_) (fun M3 c1 c2 c3 => ?_) ((M2 168 5).toNat + 1) 0 M2 (by omega) (by omega) (by omega) (fun j j0 j1 => by omega) (fun _ _ => rfl) (fun _ _ => rfl)
      · rw [f5] at j1
        rw [f171, f179]
        refine ⟨(hW.1.2 j j0 j1).1, fun z => ?_⟩
        by_cases e : j = i
        · rw [e, ur_at]
          omega
        · rw [ur_ne e]
          have y := hW.2.1.2 j j0 j1
          have y2 := y.2.1 z
          omega
      · refine k M3 ⟨?_, ?_, fun j j0 j1 => ?_, ⟨fun j hj => ?_, fun j j0 j1 => ?_⟩, fun c q1 q2 q3 q4 => ?_⟩
        · rw [c3 168 (by decide) (by decide), b3, R168]
        · rw [c2, f180]
        · rw [c1 j j0 (by omega), f171, f179]
          unfold exP
          by_cases e : j = i
          · rw [if_neg (by omega), e, ur_at, if_neg (by omega), if_pos rfl, hv]
          · rw [ur_ne e, if_neg e]
        · rw [c3 181 (by decide) (by decide), b1 j hj, R181]
        · rw [c3 181 (by decide) (by decide), b2 j j0 j1, R181]
        · rw [c3 c q2 q3, b4 c q4 q1, Ro c q2]
    rw [gR] at TL
    exact TL
  refine m259 [fx 168, ti i, ti n] ?_
  refine ⟨by omega, ?_⟩
  refine ⟨by omega, fun w => ?_, fun w => ?_⟩
  · refine ⟨by omega, ?_⟩
    refine GO _ ?_
    unfold exA
    rw [if_neg w]
  · refine GO _ ?_
    unfold exA
    rw [if_pos (by omega)]
end MEXTEND
