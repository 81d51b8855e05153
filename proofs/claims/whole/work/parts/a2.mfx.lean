/-! THE TREE WITH A NODE LESS: the reference's files and targets -/
def mfX (M M2 : FM) (x : Int) : Prop :=
  (∀ c : Nat, (171 ≤ c ∧ c ≤ 178 ∨ 183 ≤ c ∧ c ≤ 187) → M2 c = M c) ∧ (M2 168 5 = M 168 5 ∧ M2 168 20 = M 168 20 ∧ M2 168 26 = M 168 26)
  ∧ ((M 171 x = 2 → M2 168 17 = M 168 17 - M 180 x) ∧ (M 171 x ≠ 2 → M2 168 17 = M 168 17) ∧ (M 171 x = 3 → M2 168 19 = M 168 19 - M 180 x) ∧ (M 171 x ≠ 3 → M2 168 19 = M 168 19))
  ∧ (∀ i : Int, 0 ≤ i → i < M 168 5 → i ≠ x → M2 180 i = M 180 i ∧ (M 171 i = 2 → sl (M2 181) (M2 179 i) (M2 180 i).toNat = sl (M 181) (M 179 i) (M 180 i).toNat) ∧ (M 171 i = 3 → sl (M2 182) (M2 179 i) (M2 180 i).toNat = sl (M 182) (M 179 i) (M 180 i).toNat))
  ∧ twB M2 ∧ twD M2
section MFX
variable {M M2 : FM} {x : Int} {cb : Nat} {cf : Int}
def mfK (M : FM) (x : Int) (cb : Nat) (cf : Int) : Prop := M 171 x = 2 ∧ cb = 181 ∧ cf = 17 ∨ M 171 x = 3 ∧ cb = 182 ∧ cf = 19
theorem mfK_le (hW : twR M) (hk : mfK M x cb cf) {i : Int} (i0 : 0 ≤ i) (i1 : i < M 168 5) (hi : M 171 i = M 171 x) : M 179 i + M 180 i ≤ M 168 cf := by
  have q := hW.2.1.2 i i0 i1
  rcases hk with ⟨k1, -, k3⟩ | ⟨k1, -, k3⟩
  · rw [k3]
    exact q.2.1 (by omega)
  · rw [k3]
    exact q.2.2 (by omega)
theorem mf_at (hW : twR M) (hx : 0 ≤ x ∧ x < M 168 5) (hk : mfK M x cb cf) (h : mfF M M2 x cb cf) (i : Int) (i0 : 0 ≤ i) (i1 : i < M 168 5) (ix : i ≠ x) (hi : M 171 i = M 171 x) : M2 180 i = M 180 i ∧ (M 179 i + M 180 i ≤ M 179 x ∧ M2 179 i = M 179 i ∨ M 179 x + M 180 x ≤ M 179 i ∧ M2 179 i = M 179 i - M 180 x) ∧ sl (M2 cb) (M2 179 i) (M2 180 i).toNat = sl (M cb) (M 179 i) (M 180 i).toNat := by
  have hle := mfK_le hW hk i0 i1 hi
  have b1 := (hW.2.1.2 i i0 i1).1
  have b2 := (hW.2.1.2 x hx.1 hx.2).1
  have hd := hW.2.2.1 i x i0 i1 hx.1 hx.2 ix hi (by rcases hk with ⟨k1, _⟩ | ⟨k1, _⟩ <;> omega)
  obtain ⟨-, h2, h3, ⟨h4, h5⟩, -⟩ := h
  have e180 : M2 180 i = M 180 i := by rw [h3, ur_ne ix]
  refine ⟨e180, ?_⟩
  have e179 := h2 i i0 i1
  rw [e180]
  by_cases e : M 179 i + M 180 i ≤ M 179 x
  · have e1 : M2 179 i = M 179 i := by
      rw [e179]
      unfold dlq
      rw [if_neg (by omega)]
    refine ⟨Or.inl ⟨e, e1⟩, ?_⟩
    rw [e1]
    exact sl_congr _ _ _ (fun j hj => by rw [h4 _ (by omega)])
  · have e2 : M 179 x + M 180 x ≤ M 179 i := by omega
    have e1 : M2 179 i = M 179 i - M 180 x := by
      rw [e179]
      unfold dlq
      by_cases q : M 179 x < M 179 i
      · rw [if_pos ⟨hi, q⟩]
      · rw [if_neg (by omega)]
        omega
    refine ⟨Or.inr ⟨e2, e1⟩, ?_⟩
    rw [e1]
    refine sl_congr _ _ _ (fun j hj => ?_)
    rw [h5 _ (by omega) (by omega)]
    congr 2
    omega
theorem mf_oth (h : mfF M M2 x cb cf) (i : Int) (i0 : 0 ≤ i) (i1 : i < M 168 5) (hi : M 171 i ≠ M 171 x) : M2 180 i = M 180 i ∧ M2 179 i = M 179 i := by
  obtain ⟨-, h2, h3, -, -⟩ := h
  refine ⟨by rw [h3, ur_ne (fun e => hi (by rw [e]))], ?_⟩
  rw [h2 i i0 i1]
  unfold dlq
  rw [if_neg (fun z => hi z.1)]
theorem mfX_F (hW : twR M) (hx : 0 ≤ x ∧ x < M 168 5) (hk : mfK M x cb cf) (h : mfF M M2 x cb cf) : mfX M M2 x := by
  have AT := mf_at hW hx hk h
  have OT := mf_oth h
  have hle := mfK_le hW hk hx.1 hx.2 rfl
  have bx := (hW.2.1.2 x hx.1 hx.2).1
  have bb := hW.2.1.1
  obtain ⟨⟨h11, h12⟩, h2, h3, -, h6⟩ := id h
  have x180 : M2 180 x = 0 := by rw [h3, ur_at]
  have x179 : M2 179 x = M 179 x := by
    rw [h2 x hx.1 hx.2]
    exact dlq_x M x
  have e5 : M2 168 5 = M 168 5 := h12 5 (by rcases hk with ⟨-, -, k⟩ | ⟨-, -, k⟩ <;> omega)
  have e171 : M2 171 = M 171 := h6 171 (by omega) (by omega) (by omega) (by rcases hk with ⟨-, k, -⟩ | ⟨-, k, -⟩ <;> omega)
  have s17 : (M 171 x = 2 → M2 168 17 = M 168 17 - M 180 x) ∧ (M 171 x ≠ 2 → M2 168 17 = M 168 17) ∧ (M 171 x = 3 → M2 168 19 = M 168 19 - M 180 x) ∧ (M 171 x ≠ 3 → M2 168 19 = M 168 19) := by
    rcases hk with ⟨k1, k2, k3⟩ | ⟨k1, k2, k3⟩
    · rw [k3] at h11 h12
      exact ⟨fun _ => h11, fun z => absurd k1 z, fun z => by omega, fun _ => h12 19 (by omega)⟩
    · rw [k3] at h11 h12
      exact ⟨fun z => by omega, fun _ => h12 17 (by omega), fun _ => h11, fun z => absurd k1 z⟩
  have xk : M 171 x = 2 ∨ M 171 x = 3 := by rcases hk with ⟨k1, _⟩ | ⟨k1, _⟩ <;> omega
  have XL2 : M 171 x = 2 → M 179 x + M 180 x ≤ M 168 17 := (hW.2.1.2 x hx.1 hx.2).2.1
  have XL3 : M 171 x = 3 → M 179 x + M 180 x ≤ M 168 19 := (hW.2.1.2 x hx.1 hx.2).2.2
  refine ⟨fun c hc => h6 c (by omega) (by omega) (by omega) (by rcases hk with ⟨-, k, -⟩ | ⟨-, k, -⟩ <;> omega), ⟨e5, ?_, ?_⟩, s17, fun i i0 i1 ix => ?_, ⟨?_, fun i i0 i1 => ?_⟩, fun i j i0 i1 j0 j1 ij hij hi => ?_⟩
  · exact h12 20 (by rcases hk with ⟨-, -, k⟩ | ⟨-, -, k⟩ <;> omega)
  · exact h12 26 (by rcases hk with ⟨-, -, k⟩ | ⟨-, -, k⟩ <;> omega)
  · by_cases e : M 171 i = M 171 x
    · obtain ⟨a1, -, a3⟩ := AT i i0 i1 ix e
      refine ⟨a1, fun z => ?_, fun z => ?_⟩
      · rcases hk with ⟨k1, k2, k3⟩ | ⟨k1, k2, k3⟩
        · rw [k2] at a3
          exact a3
        · omega
      · rcases hk with ⟨k1, k2, k3⟩ | ⟨k1, k2, k3⟩
        · omega
        · rw [k2] at a3
          exact a3
    · obtain ⟨a1, a2⟩ := OT i i0 i1 e
      rw [a1, a2]
      refine ⟨rfl, fun z => ?_, fun z => ?_⟩
      · rw [h6 181 (by omega) (by omega) (by omega) (by rcases hk with ⟨k1, k, -⟩ | ⟨k1, k, -⟩ <;> omega)]
      · rw [h6 182 (by omega) (by omega) (by omega) (by rcases hk with ⟨k1, k, -⟩ | ⟨k1, k, -⟩ <;> omega)]
  · obtain ⟨u1, u2, u3, u4⟩ := s17
    by_cases e : M 171 x = 2
    · have v1 := u1 e
      have v2 := u4 (by omega)
      have v3 := XL2 e
      omega
    · have e3 : M 171 x = 3 := by omega
      have v1 := u2 e
      have v2 := u3 e3
      have v3 := XL3 e3
      omega
  · rw [e5] at i1
    rw [e171]
    have bi := hW.2.1.2 i i0 i1
    obtain ⟨u1, u2, u3, u4⟩ := s17
    by_cases ix : i = x
    · rw [ix, x179, x180]
      refine ⟨by omega, fun z => ?_, fun z => ?_⟩
      · have v1 := u1 z
        have v3 := XL2 z
        omega
      · have v1 := u3 z
        have v3 := XL3 z
        omega
    · by_cases e : M 171 i = M 171 x
      · obtain ⟨a1, a2, -⟩ := AT i i0 i1 ix e
        rw [a1]
        refine ⟨by omega, fun z => ?_, fun z => ?_⟩
        · have v1 := u1 (by omega)
          have v2 := bi.2.1 z
          have v3 := XL2 (by omega)
          omega
        · have v1 := u3 (by omega)
          have v2 := bi.2.2 z
          have v3 := XL3 (by omega)
          omega
      · obtain ⟨a1, a2⟩ := OT i i0 i1 e
        rw [a1, a2]
        refine ⟨bi.1, fun z => ?_, fun z => ?_⟩
        · rw [u2 (by omega)]
          exact bi.2.1 z
        · rw [u4 (by omega)]
          exact bi.2.2 z
  · rw [e5] at i1 j1
    rw [e171] at hij hi
    have bi := (hW.2.1.2 i i0 i1).1
    have bj := (hW.2.1.2 j j0 j1).1
    have hd := hW.2.2.1 i j i0 i1 j0 j1 ij hij hi
    by_cases e : M 171 i = M 171 x
    · by_cases ix : i = x
      · rw [ix, x179, x180]
        obtain ⟨a1, a2, -⟩ := AT j j0 j1 (by omega) (by omega)
        rw [a1]
        omega
      · obtain ⟨a1, a2, -⟩ := AT i i0 i1 ix e
        by_cases jx : j = x
        · rw [jx, x179, x180, a1]
          omega
        · obtain ⟨c1, c2, -⟩ := AT j j0 j1 jx (by omega)
          rw [a1, c1]
          omega
    · obtain ⟨a1, a2⟩ := OT i i0 i1 e
      obtain ⟨c1, c2⟩ := OT j j0 j1 (by omega)
      rw [a1, a2, c1, c2]
      exact hd
theorem mfX_id (hW : twR M) (h2 : M 171 x ≠ 2) (h3 : M 171 x ≠ 3) : mfX M M x :=
  ⟨fun _ _ => rfl, ⟨rfl, rfl, rfl⟩, ⟨fun z => absurd z h2, fun _ => rfl, fun z => absurd z h3, fun _ => rfl⟩, fun _ _ _ _ => ⟨rfl, fun _ => rfl, fun _ => rfl⟩, hW.2.1, hW.2.2.1⟩
theorem mfX_from {M0 : FM} (h : mfX M M2 x) (e : ∀ c : Nat, 168 ≤ c → c ≤ 187 → M0 c = M c) : mfX M0 M2 x := by
  obtain ⟨h1, h2, h3, h4, h5⟩ := h
  have k168 := e 168 (by omega) (by omega)
  have k171 := e 171 (by omega) (by omega)
  have k179 := e 179 (by omega) (by omega)
  have k180 := e 180 (by omega) (by omega)
  have k181 := e 181 (by omega) (by omega)
  have k182 := e 182 (by omega) (by omega)
  refine ⟨fun c hc => (h1 c hc).trans (e c (by omega) (by omega)).symm, ?_, ?_, ?_, h5⟩
  · rw [k168]
    exact h2
  · rw [k168, k171, k180]
    exact h3
  · rw [k168, k171, k179, k180, k181, k182]
    exact h4
end MFX
