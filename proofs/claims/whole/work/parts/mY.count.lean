/-! FREEZING: the walk's steps are enough -/
def anc (M0 : FM) : Nat → Int → Int
  | 0, y => y
  | n + 1, y => M0 178 (anc M0 n y)
/-- the directories below, in the order in which they are ended -/
def dlK (M0 : FM) (fn : Int → List Int) (e : Int) : Nat → List Int
  | 0 => []
  | j + 1 => if M0 171 (M0 184 (e + j)) = 1 then dlK M0 fn e j ++ fn (M0 184 (e + j)) else dlK M0 fn e j
def dlD (M0 : FM) : Nat → Int → List Int
  | 0, _ => []
  | f + 1, x => dlK M0 (dlD M0 f) (fe M0 x) (ec M0 x) ++ [x]
theorem cnt_two (f : Int → Int) (v : Int) {k1 k2 : Nat} (h : k1 < k2) (e1 : f k1 = v) (e2 : f k2 = v) : ∀ n : Nat, k2 < n → 2 ≤ cnt f n v
  | 0, h2 => by omega
  | n + 1, h2 => by
    show 2 ≤ cnt f n v + (if f n = v then 1 else 0)
    by_cases q : k2 = n
    · have p := cnt_pos f v n k1 (by omega) e1
      rw [← q] at p ⊢
      rw [if_pos e2]
      omega
    · have ih := cnt_two f v h e1 e2 n (by omega)
      split <;> omega
theorem dlK_ex {M0 : FM} {fn : Int → List Int} {e z : Int} : ∀ j : Nat, z ∈ dlK M0 fn e j → ∃ t : Nat, t < j ∧ M0 171 (M0 184 (e + t)) = 1 ∧ z ∈ fn (M0 184 (e + t))
  | 0, h => absurd h List.not_mem_nil
  | j + 1, h => by
    unfold dlK at h
    by_cases c : M0 171 (M0 184 (e + j)) = 1
    · rw [if_pos c] at h
      rcases List.mem_append.1 h with q | q
      · obtain ⟨t, t1, t2, t3⟩ := dlK_ex j q
        exact ⟨t, by omega, t2, t3⟩
      · exact ⟨j, by omega, c, q⟩
    · rw [if_neg c] at h
      obtain ⟨t, t1, t2, t3⟩ := dlK_ex j h
      exact ⟨t, by omega, t2, t3⟩
section COUNT
variable {sh : Nat → Option Shp} {M0 : FM}
theorem dl_P (hT : treeR sh M0) : ∀ (f : Nat) (x δ : Int) (a : Nat), ((0 ≤ x ∧ x < M0 168 5) ∧ live M0 x) → M0 171 x = 1 → M0 11 x = a → M0 a 4 = δ → (f : Int) + δ = 101 → (dlD M0 f x).Nodup ∧ (∀ z ∈ dlD M0 f x, (0 ≤ z ∧ z < M0 168 5) ∧ ∃ n : Nat, anc M0 n z = x ∧ M0 (M0 11 z).toNat 4 = δ + n) ∧ coD M0 f x + 1 ≤ 2 * (dlD M0 f x).length := by
  intro f
  induction f with
  | zero =>
    intro x δ a hx h1 ha hδ hf
    obtain ⟨a2, h9, t9, ea, hS, ha3, hE, -, -, hD⟩ := nd_of hT hx
    have ea2 : a2 = a := by omega
    rw [ea2] at hD
    have := (hD.2 h1).1
    omega
  | succ f IH =>
    intro x δ a hx h1 ha hδ hf
    have er := fe_r hT.1 x
    -- of each directory in it
    have KID : ∀ t : Nat, t < ec M0 x → M0 171 (M0 184 (fe M0 x + t)) = 1 → M0 178 (M0 184 (fe M0 x + t)) = x ∧ (dlD M0 f (M0 184 (fe M0 x + t))).Nodup ∧ (∀ z ∈ dlD M0 f (M0 184 (fe M0 x + t)), (0 ≤ z ∧ z < M0 168 5) ∧ ∃ n : Nat, anc M0 n z = M0 184 (fe M0 x + t) ∧ M0 (M0 11 z).toNat 4 = δ + 1 + n) ∧ coD M0 f (M0 184 (fe M0 x + t)) + 1 ≤ 2 * (dlD M0 f (M0 184 (fe M0 x + t))).length := by
      intro t ht hk
      have l := ent_live hT.1 (k := fe M0 x + t) (by omega) (by omega)
      obtain ⟨e178, ypos, dep, dep2⟩ := dir_kid hT ha ht hk
      obtain ⟨u1, v1, hSc, hc3, hc11, hEc⟩ := ce_of (x := x) hT ht
      exact ⟨e178, IH (M0 184 (fe M0 x + t)) (δ + 1) (ceC M0 x t) ⟨⟨by omega, l.1.2⟩, l.2⟩ hk hc11 (by omega) (by omega)⟩
    have ALL : ∀ j : Nat, j ≤ ec M0 x → (dlK M0 (dlD M0 f) (fe M0 x) j).Nodup ∧ coK M0 (coD M0 f) (fe M0 x) j ≤ 2 * (dlK M0 (dlD M0 f) (fe M0 x) j).length := by
      intro j
      induction j with
      | zero =>
        intro _
        exact ⟨List.nodup_nil, Nat.le_refl _⟩
      | succ j ih =>
        intro hj
        obtain ⟨i1, i2⟩ := ih (by omega)
        unfold dlK coK
        by_cases c : M0 171 (M0 184 (fe M0 x + j)) = 1
        · rw [if_pos c, if_pos c]
          obtain ⟨k1, k2, k3, k4⟩ := KID j (by omega) c
          refine ⟨?_, by rw [List.length_append]; omega⟩
          rw [List.nodup_append]
          refine ⟨i1, k2, fun u hu v hv euv => ?_⟩
          rw [← euv] at hv
          obtain ⟨t, t1, t2, t3⟩ := dlK_ex j hu
          obtain ⟨m1, m2, m3, m4⟩ := KID t (by omega) t2
          obtain ⟨-, n1, a1, b1⟩ := m3 u t3
          obtain ⟨-, n2, a2, b2⟩ := k3 u hv
          have en : n1 = n2 := by omega
          rw [en, a2] at a1
          have l := ent_live hT.1 (k := fe M0 x + j) (by omega) (by omega)
          have tc := hT.1.2.2.2.2.2.2 (M0 184 (fe M0 x + j)) (by omega) l.1.2
          have tc2 := tc.2 c
          have two := cnt_two (M0 184) (M0 184 (fe M0 x + j)) (k1 := (fe M0 x + t).toNat) (k2 := (fe M0 x + j).toNat) (by omega) (by rw [show (((fe M0 x + t).toNat : Nat) : Int) = fe M0 x + t by omega]; exact a1.symm) (by rw [show (((fe M0 x + j).toNat : Nat) : Int) = fe M0 x + j by omega]) (M0 168 20).toNat (by omega)
          have tc1 := tc.1
          omega
        · rw [if_neg c, if_neg c]
          exact ⟨i1, i2⟩
    obtain ⟨q1, q2⟩ := ALL (ec M0 x) (Nat.le_refl _)
    have NX : ∀ z ∈ dlK M0 (dlD M0 f) (fe M0 x) (ec M0 x), (0 ≤ z ∧ z < M0 168 5) ∧ ∃ n : Nat, anc M0 (n + 1) z = x ∧ M0 (M0 11 z).toNat 4 = δ + (n + 1 : Nat) := fun z hz => by
      obtain ⟨t, t1, t2, t3⟩ := dlK_ex (ec M0 x) hz
      obtain ⟨m1, m2, m3, m4⟩ := KID t t1 t2
      obtain ⟨r, n, a1, b1⟩ := m3 z t3
      refine ⟨r, n, ?_, by omega⟩
      show M0 178 (anc M0 n z) = x
      rw [a1, m1]
    refine ⟨?_, fun z hz => ?_, ?_⟩
    · show (dlK M0 (dlD M0 f) (fe M0 x) (ec M0 x) ++ [x]).Nodup
      rw [List.nodup_append]
      refine ⟨q1, by simp, fun u hu v hv euv => ?_⟩
      rw [List.mem_singleton.1 hv] at euv
      obtain ⟨-, n, a1, b1⟩ := NX u hu
      rw [euv, ha, show ((a : Nat) : Int).toNat = a by omega] at b1
      omega
    · rcases List.mem_append.1 hz with q | q
      · obtain ⟨r, n, a1, b1⟩ := NX z q
        exact ⟨r, n + 1, a1, b1⟩
      · rw [List.mem_singleton.1 q]
        refine ⟨hx.1, 0, rfl, ?_⟩
        rw [ha, show ((a : Nat) : Int).toNat = a by omega]
        omega
    · show coK M0 (coD M0 f) (fe M0 x) (ec M0 x) + 1 + 1 ≤ 2 * (dlK M0 (dlD M0 f) (fe M0 x) (ec M0 x) ++ [x]).length
      rw [List.length_append]
      show coK M0 (coD M0 f) (fe M0 x) (ec M0 x) + 1 + 1 ≤ 2 * ((dlK M0 (dlD M0 f) (fe M0 x) (ec M0 x)).length + 1)
      omega
theorem co_le (hT : treeR sh M0) : coD M0 101 0 ≤ 4000 := by
  have nN := hT.1.1.1
  have hx : ((0 : Int) ≤ 0 ∧ (0 : Int) < M0 168 5) ∧ live M0 0 := ⟨by omega, Or.inl rfl⟩
  obtain ⟨a, h9, t9, ea, hS, ha3, hE, -, -, hD⟩ := nd_of hT hx
  have e4 := ((hD.2 nN.2.2).2.1 rfl).2
  obtain ⟨p1, p2, p3⟩ := dl_P hT 101 0 0 a hx nN.2.2 ea e4 (by omega)
  have := pig (M0 168 5).toNat (dlD M0 101 0) p1 (fun z hz => by have := (p2 z hz).1; omega)
  omega
end COUNT
