/-! CALLS of both: drop, the reference's forget, whole -/
def mfF (M M2 : FM) (x : Int) (cb : Nat) (cf : Int) : Prop :=
  (M2 168 cf = M 168 cf - M 180 x ∧ ∀ i : Int, i ≠ cf → M2 168 i = M 168 i) ∧ (∀ i : Int, 0 ≤ i → i < M 168 5 → M2 179 i = dlq M x i) ∧ M2 180 = ur (M 180) x 0
  ∧ ((∀ i : Int, i < M 179 x → M2 cb i = M cb i) ∧ ∀ i : Int, M 179 x ≤ i → i + M 180 x < M 168 cf → M2 cb i % 256 = M cb (i + M 180 x) % 256)
  ∧ ∀ c : Nat, c ≠ 168 → c ≠ 179 → c ≠ 180 → c ≠ cb → M2 c = M c
section MFORGET2
variable {d nx zl : Nat} {K : Option TV → FH → Prop} {sh : Nat → Option Shp} {M : FM} {x y2 : Int}
/-- the loop, from cells where the bytes have gone -/
theorem mfZ {M1 MZ : FM} {cb : Nat} {cf : Int} (hcb : cb = 181 ∨ cb = 182) (hcf : cf ≠ 5) (hN : 0 ≤ M 168 5 ∧ M 168 5 ≤ 2000) (hx : 0 ≤ x ∧ x < M 168 5) (hr : ∀ i : Int, 0 ≤ i → i < M 168 5 → (1 ≤ M 171 i ∧ M 171 i ≤ 7) ∧ (M 171 i = 2 ∨ M 171 i = 3 → 0 ≤ M 179 i ∧ M 179 i ≤ 65536)) (hk : M 171 x = 2 ∨ M 171 x = 3) (c1 : ∀ c : Nat, c ≠ cb → M1 c = M c) (c2 : ∀ i : Int, i < M 179 x → M1 cb i = M cb i) (c3 : ∀ i : Int, M 179 x ≤ i → i + M 180 x < M 168 cf → M1 cb i % 256 = M cb (i + M 180 x) % 256) (z1 : MZ 168 cf = M 168 cf - M 180 x) (z2 : ∀ i : Int, i ≠ cf → MZ 168 i = M 168 i) (z3 : ∀ c : Nat, c ≠ 168 → MZ c = M1 c) (k : ∀ M2 : FM, mfF M M2 x cb cf → K none (sh, M2, nx, zl)) : fm_X d kd257 130 [some (fx 168), some (ti x), some (ti y2), some (ti 0), none] [] (sh, MZ, nx, zl) K := by
  have e5 : MZ 168 5 = M 168 5 := z2 5 (fun e => hcf e.symm)
  have ZM : ∀ c : Nat, c ≠ 168 → c ≠ cb → MZ c = M c := fun c q1 q2 => (z3 c q1).trans (c1 c q2)
  have e171 := ZM 171 (by omega) (by omega)
  have e179 := ZM 179 (by omega) (by omega)
  have e180 := ZM 180 (by omega) (by omega)
  refine mf130 (M := MZ) (by omega) (by omega) (fun i i0 i1 => ?_) (by rw [e171]; exact hk) (fun M2 b1 b2 b3 => ?_) ((MZ 168 5).toNat + 1) 0 MZ none (by omega) (by omega) (by omega) (fun j j0 j1 => by omega) (fun j _ => rfl) (fun c _ => rfl)
  · rw [e171, e179]
    exact hr i i0 (by omega)
  · refine k M2 ⟨⟨?_, fun i hi => ?_⟩, fun i i0 i1 => ?_, ?_, ⟨fun i hi => ?_, fun i i0 i1 => ?_⟩, fun c q1 q2 q3 q4 => ?_⟩
    · rw [b3 168 (by decide) (by decide)]
      exact z1
    · rw [b3 168 (by decide) (by decide)]
      exact z2 i hi
    · rw [b1 i i0 (by omega)]
      unfold dlq
      rw [e171, e179, e180]
    · rw [b2, e180]
    · rw [b3 cb (by omega) (by omega), z3 cb (by omega)]
      exact c2 i hi
    · rw [b3 cb (by omega) (by omega), z3 cb (by omega)]
      exact c3 i i0 i1
    · rw [b3 c q2 q3]
      exact ZM c q1 q4
theorem mforget_Y (hN : 0 ≤ M 168 5 ∧ M 168 5 ≤ 2000) (hx : 0 ≤ x ∧ x < M 168 5) (hr : ∀ i : Int, 0 ≤ i → i < M 168 5 → (1 ≤ M 171 i ∧ M 171 i ≤ 7) ∧ (M 171 i = 2 ∨ M 171 i = 3 → 0 ≤ M 179 i ∧ M 179 i ≤ 65536)) (h180 : M 171 x = 2 ∨ M 171 x = 3 → 0 ≤ M 180 x ∧ M 180 x ≤ 65536) (h17 : 0 ≤ M 168 17 ∧ M 168 17 ≤ 65536) (h19 : 0 ≤ M 168 19 ∧ M 168 19 ≤ 32768)
    (kz : M 171 x ≠ 2 → M 171 x ≠ 3 → K none (sh, M, nx, zl)) (k2 : M 171 x = 2 → ∀ M2 : FM, mfF M M2 x 181 17 → K none (sh, M2, nx, zl)) (k3 : M 171 x = 3 → ∀ M2 : FM, mfF M M2 x 182 19 → K none (sh, M2, nx, zl)) : fm_Y (d + 2) 257 [.ref 168, .int (Int32.ofInt x)] (sh, M, nx, zl) K := by
  refine m257 [fx 168, ti x] ?_
  have q := hr x hx.1 hx.2
  refine ⟨by omega, ?_⟩
  refine ⟨by omega, fun w => ?_, fun w => ?_⟩
  · refine ⟨by omega, fun z => by omega, fun _ => ?_⟩
    refine ⟨by omega, ?_⟩
    refine ⟨by omega, fun w2 => ?_, fun w2 => kz w2 w⟩
    refine ⟨by omega, fun _ => ?_, fun z => by omega⟩
    refine ⟨by omega, fun _ => ?_, fun z => by omega⟩
    refine ⟨by omega, ?_⟩
    refine ⟨by omega, ?_⟩
    have hk : M 171 x = 2 ∨ M 171 x = 3 := Or.inl w2
    have q5 := q.2 hk
    have q6 := h180 hk
    refine mclose_Y (a := 181) (na := 65536) rfl (by decide) (by decide) (by omega) (by omega) (by omega) (by omega) (by omega) (by omega) (fun M1 c1 c2 c3 => ?_)
    refine ⟨by omega, fun _ => ?_, fun z => by omega⟩
    refine ⟨by omega, fun _ => ?_, fun z => by omega⟩
    refine ⟨by omega, ?_⟩
    have u168 := c1 168 (by decide)
    have u180 := c1 180 (by decide)
    refine mfZ (cb := 181) (cf := 17) (Or.inl rfl) (by omega) hN hx hr hk c1 c2 c3 ?_ ?_ ?_ (k2 w2)
    · rw [um_at, ur_at, um_at, ur_ne (by omega), um_ne (by decide), u168, u180]
    · intro i hi
      rw [um_at, ur_ne hi, um_at]
      by_cases e : i = 19
      · rw [e, ur_at, u168]
      · rw [ur_ne e, u168]
    · intro c hc
      rw [um_ne hc, um_ne hc]
  · refine ⟨by omega, fun _ => ?_, fun z => by omega⟩
    refine ⟨by omega, fun z => by omega, fun _ => ?_⟩
    refine ⟨by omega, fun z => by omega, fun _ => ?_⟩
    refine ⟨by omega, ?_⟩
    refine ⟨by omega, ?_⟩
    have hk : M 171 x = 2 ∨ M 171 x = 3 := Or.inr w
    have q5 := q.2 hk
    have q6 := h180 hk
    refine mclose_Y (a := 182) (na := 32768) rfl (by decide) (by decide) (by omega) (by omega) (by omega) (by omega) (by omega) (by omega) (fun M1 c1 c2 c3 => ?_)
    refine ⟨by omega, fun z => by omega, fun _ => ?_⟩
    refine ⟨by omega, ?_⟩
    refine ⟨by omega, fun z => by omega, fun _ => ?_⟩
    have u168 := c1 168 (by decide)
    have u180 := c1 180 (by decide)
    refine mfZ (cb := 182) (cf := 19) (Or.inr rfl) (by omega) hN hx hr hk c1 c2 c3 ?_ ?_ ?_ (k3 w)
    · rw [um_at, ur_ne (by omega), um_at, ur_at, u168, u180]
    · intro i hi
      rw [um_at]
      by_cases e : i = 17
      · rw [e, ur_at, um_at, ur_ne (by omega), u168]
      · rw [ur_ne e, um_at, ur_ne hi, u168]
    · intro c hc
      rw [um_ne hc, um_ne hc]
end MFORGET2
