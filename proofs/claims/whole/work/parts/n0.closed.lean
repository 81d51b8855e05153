/-! FREEZING: all nodes that have numbers come into the rows -/
theorem nuA_mem (M : FM) (L : List Int) (e : Int) : ∀ (n i : Nat), i < n → M 184 (e + i) ∈ nuA M L e n
  | 0, i, h => by omega
  | n + 1, i, h => by
    unfold nuA
    by_cases c : i = n
    · rw [c]
      split
      · rename_i w
        exact w
      · exact List.mem_append_right _ (List.mem_singleton.2 rfl)
    · have ih := nuA_mem M L e n i (by omega)
      split
      · exact ih
      · exact List.mem_append_left _ ih
theorem nuA_inv (M : FM) (L : List Int) (e x : Int) : ∀ n : Nat, x ∈ nuA M L e n → x ∈ L ∨ ∃ i : Nat, i < n ∧ x = M 184 (e + i)
  | 0, h => Or.inl h
  | n + 1, h => by
    unfold nuA at h
    have IH : x ∈ nuA M L e n → x ∈ L ∨ ∃ i : Nat, i < n + 1 ∧ x = M 184 (e + i) := fun q => by
      rcases nuA_inv M L e x n q with w | ⟨i, i1, i2⟩
      · exact Or.inl w
      · exact Or.inr ⟨i, by omega, i2⟩
    split at h
    · exact IH h
    · rcases List.mem_append.1 h with q | q
      · exact IH q
      · exact Or.inr ⟨n, by omega, List.mem_singleton.1 q⟩
theorem nuG_pre (M : FM) (k : Nat) : ∀ j : Nat, ∃ X : List Int, nuG M (k + j) = nuG M k ++ X
  | 0 => ⟨[], (List.append_nil _).symm⟩
  | j + 1 => by
    obtain ⟨X, hX⟩ := nuG_pre M k j
    show ∃ Y : List Int, (match (nuG M (k + j))[k + j]? with
      | none => nuG M (k + j)
      | some x => nuA M (nuG M (k + j)) (fe M x) (ec M x)) = nuG M k ++ Y
    split
    · exact ⟨X, hX⟩
    · rename_i x hx
      obtain ⟨Y, hY⟩ := nuA_pre M (nuG M (k + j)) (fe M x) (ec M x)
      exact ⟨X ++ Y, by rw [hY, hX, List.append_assoc]⟩
theorem nuL_0 (M : FM) : (0 : Int) ∈ nuL M := by
  obtain ⟨X, hX⟩ := nuG_pre M 0 2000
  have e : nuL M = nuG M 0 ++ X := by
    unfold nuL
    rw [← hX, show 0 + 2000 = 2000 by omega]
  rw [e]
  exact List.mem_append_left _ (List.mem_singleton.2 rfl)
theorem nuL_cl {M : FM} (hW : twR M) : ∀ x ∈ nuL M, ∀ j : Nat, j < ec M x → M 184 (fe M x + j) ∈ nuL M := by
  intro x hx j hj
  obtain ⟨i, hi, ex⟩ := List.getElem_of_mem hx
  have h1 : (nuL M)[i]? = some x := by rw [← ex]; exact List.getElem?_eq_getElem hi
  have LL := nuP_len hW (nuG_P hW 2000)
  have LL2 : (nuL M).length ≤ 2000 := LL
  obtain ⟨X, hX⟩ := nuG_pre M i (2000 - i)
  rw [show i + (2000 - i) = 2000 by omega] at hX
  have hX2 : nuL M = nuG M i ++ X := hX
  have lt : i < (nuG M i).length := by
    by_cases c : i < (nuG M i).length
    · exact c
    · have := nuG_end (M := M) (k := i) (by omega) (2000 - i)
      rw [show i + (2000 - i) = 2000 by omega] at this
      have e : nuL M = nuG M i := this
      rw [e] at hi
      omega
  have h2 : (nuG M i)[i]? = some x := by
    rw [hX2, List.getElem?_append_left lt] at h1
    exact h1
  have h3 : nuG M (i + 1) = nuA M (nuG M i) (fe M x) (ec M x) := by
    show (match (nuG M i)[i]? with
      | none => nuG M i
      | some x => nuA M (nuG M i) (fe M x) (ec M x)) = _
    rw [h2]
  obtain ⟨Y, hY⟩ := nuG_pre M (i + 1) (2000 - (i + 1))
  rw [show i + 1 + (2000 - (i + 1)) = 2000 by omega] at hY
  have hY2 : nuL M = nuG M (i + 1) ++ Y := hY
  rw [hY2, h3]
  exact List.mem_append_left _ (nuA_mem M _ _ _ j hj)
theorem dlK_mem {M0 : FM} {fn : Int → List Int} {e z : Int} : ∀ (n t : Nat), t < n → M0 171 (M0 184 (e + t)) = 1 → z ∈ fn (M0 184 (e + t)) → z ∈ dlK M0 fn e n
  | 0, t, h, _, _ => by omega
  | n + 1, t, h, h1, h2 => by
    unfold dlK
    by_cases c : t = n
    · rw [c] at h1 h2
      rw [if_pos h1]
      exact List.mem_append_right _ h2
    · have ih := dlK_mem n t (by omega) h1 h2
      split
      · exact List.mem_append_left _ ih
      · exact ih
section VISIT
variable {sh : Nat → Option Shp} {M0 : FM}
/-- a directory below a directory that is ended is ended -/
theorem dl_cl (hT : treeR sh M0) : ∀ (f : Nat) (x δ : Int) (a : Nat), ((0 ≤ x ∧ x < M0 168 5) ∧ live M0 x) → M0 171 x = 1 → M0 11 x = a → M0 a 4 = δ → (f : Int) + δ = 101 → x ∈ dlD M0 f x ∧ ∀ z ∈ dlD M0 f x, ∀ j : Nat, j < ec M0 z → M0 171 (M0 184 (fe M0 z + j)) = 1 → M0 184 (fe M0 z + j) ∈ dlD M0 f x := by
  intro f
  induction f with
  | zero =>
    intro x δ a hx h1 ha hδ hf
    obtain ⟨a2, h9, t9, ea, hS, ha3, hE, -, -, hD⟩ := nd_of hT hx
    have ea2 : a2 = a := by omega
    rw [ea2] at hD
    have := (hD.2 h1).1
    omega
  | succ f IH =>
    intro x δ a hx h1 ha hδ hf
    have er := fe_r hT.1 x
    have KID : ∀ t : Nat, t < ec M0 x → M0 171 (M0 184 (fe M0 x + t)) = 1 → M0 184 (fe M0 x + t) ∈ dlD M0 f (M0 184 (fe M0 x + t)) ∧ ∀ z ∈ dlD M0 f (M0 184 (fe M0 x + t)), ∀ j : Nat, j < ec M0 z → M0 171 (M0 184 (fe M0 z + j)) = 1 → M0 184 (fe M0 z + j) ∈ dlD M0 f (M0 184 (fe M0 x + t)) := by
      intro t ht hk
      have l := ent_live hT.1 (k := fe M0 x + t) (by omega) (by omega)
      obtain ⟨e178, ypos, dep, dep2⟩ := dir_kid hT ha ht hk
      obtain ⟨u1, v1, hSc, hc3, hc11, hEc⟩ := ce_of (x := x) hT ht
      exact IH (M0 184 (fe M0 x + t)) (δ + 1) (ceC M0 x t) ⟨⟨by omega, l.1.2⟩, l.2⟩ hk hc11 (by omega) (by omega)
    refine ⟨List.mem_append_right _ (List.mem_singleton.2 rfl), fun z hz j hj hk => ?_⟩
    rcases List.mem_append.1 hz with q | q
    · obtain ⟨t, t1, t2, t3⟩ := dlK_ex (ec M0 x) q
      exact List.mem_append_left _ (dlK_mem (ec M0 x) t t1 t2 ((KID t t1 t2).2 z t3 j hj hk))
    · rw [List.mem_singleton.1 q] at hj hk ⊢
      exact List.mem_append_left _ (dlK_mem (ec M0 x) j hj hk (KID j hj hk).1)
theorem nuG_V (hT : treeR sh M0) : ∀ k : Nat, ∀ x ∈ nuG M0 k, (M0 171 x = 1 → x ∈ dlD M0 101 0) ∧ (x = 0 ∨ ∃ y ∈ dlD M0 101 0, ∃ j : Nat, j < ec M0 y ∧ x = M0 184 (fe M0 y + j)) := by
  have nN := hT.1.1.1
  have hx0 : ((0 : Int) ≤ 0 ∧ (0 : Int) < M0 168 5) ∧ live M0 0 := ⟨by omega, Or.inl rfl⟩
  obtain ⟨a, h9, t9, ea, hS, ha3, hE, -, -, hD⟩ := nd_of hT hx0
  have e4 := ((hD.2 nN.2.2).2.1 rfl).2
  obtain ⟨c1, c2⟩ := dl_cl hT 101 0 0 a hx0 nN.2.2 ea e4 (by omega)
  intro k
  induction k with
  | zero =>
    intro x hx
    have e : x = 0 := List.mem_singleton.1 hx
    rw [e]
    exact ⟨fun _ => c1, Or.inl rfl⟩
  | succ k ih =>
    intro x hx
    unfold nuG at hx
    split at hx
    · exact ih x hx
    · rename_i y hy
      rcases nuA_inv M0 _ _ x _ hx with q | ⟨i, i1, i2⟩
      · exact ih x q
      · have yin := List.mem_of_getElem? hy
        have er := fe_r hT.1 y
        have tE := (hT.1.2.2.2.1.2 (fe M0 y + i) (by omega) (by omega)).1
        have e183 := fe_in hT.1 (F := y) (k := fe M0 y + i) (by omega) (by omega)
        rw [e183] at tE
        have yV := (ih y yin).1 tE.2.2.2
        refine ⟨fun h1 => ?_, Or.inr ⟨y, yV, i, i1, i2⟩⟩
        rw [i2] at h1 ⊢
        exact c2 y yV i i1 h1
end VISIT
section RSD
variable {M0 : FM} {z : Int} {ids L : List Int} {D : DS}
/-- nodes that are there stay there -/
def moP (s t : RS) : Prop := ∀ y : Int, 0 ≤ rP s y → 0 ≤ rP t y
theorem moP_t {s t u : RS} (h : moP s t) (g : moP t u) : moP s u := fun y hy => g y (h y hy)
theorem upP_pos {P : Int → Int} {x : Int} {n : Nat} {y : Int} (h : 0 ≤ P y ∨ y = x) : 0 ≤ upP P x n y := by
  by_cases e : y = x
  · rw [e, upP_at]
    omega
  · rw [upP_ne e]
    rcases h with q | q
    · exact q
    · exact absurd q e
theorem rsOt_P (e : Int) (o : Option RS) : ∀ (n : Nat) (s : RS), rsOt M0 ids L D e n o = some s → ∃ s0 : RS, o = some s0 ∧ moP s0 s ∧ ∀ j : Nat, j < n → 0 ≤ rP s (M0 184 (e + j))
  | 0, s, h => ⟨s, h, fun _ h => h, fun j hj => by omega⟩
  | n + 1, s, h => by
    have h2 : (rsOt M0 ids L D e n o).bind (fun s => if rP s (M0 184 (e + n)) < 0 then rput s (M0 184 (e + n)) (nnB M0 ids L D (M0 184 (e + n))) else some s) = some s := h
    cases hr : rsOt M0 ids L D e n o with
    | none =>
      rw [hr] at h2
      cases h2
    | some s1 =>
      rw [hr] at h2
      obtain ⟨s0, a1, a2, a3⟩ := rsOt_P e o n s1 hr
      have h3 : (if rP s1 (M0 184 (e + n)) < 0 then rput s1 (M0 184 (e + n)) (nnB M0 ids L D (M0 184 (e + n))) else some s1) = some s := h2
      have E : moP s1 s ∧ 0 ≤ rP s (M0 184 (e + n)) := by
        by_cases c : rP s1 (M0 184 (e + n)) < 0
        · rw [if_pos c] at h3
          unfold rput at h3
          split at h3
          · rw [← Option.some.inj h3]
            exact ⟨fun y hy => upP_pos (Or.inl hy), upP_pos (Or.inr rfl)⟩
          · cases h3
        · rw [if_neg c] at h3
          rw [← Option.some.inj h3]
          exact ⟨fun _ h => h, by omega⟩
      refine ⟨s0, a1, moP_t a2 E.1, fun j hj => ?_⟩
      by_cases c : j = n
      · rw [c]
        exact E.2
      · exact E.1 _ (a3 j (by omega))
theorem rsF_P {x : Int} {o : Option RS} {s : RS} (h : rsF M0 z ids L x o = some s) : ∃ s0 : RS, o = some s0 ∧ moP s0 s ∧ 0 ≤ rP s x := by
  cases o with
  | none => cases h
  | some s0 =>
    have h3 : (if (lsC (ngE M0 z L s0 x) (ngT M0 z L s0 x)).length ≤ 65536 ∧ (rI s0).length + (fnB M0 z ids L s0 x).length ≤ 65536 then some (rI s0 ++ fnB M0 z ids L s0 x, lsC (ngE M0 z L s0 x) (ngT M0 z L s0 x), upP (rP s0) x (rI s0).length) else none : Option RS) = some s := h
    split at h3
    · rw [← Option.some.inj h3]
      exact ⟨s0, rfl, fun y hy => upP_pos (Or.inl hy), upP_pos (Or.inr rfl)⟩
    · cases h3
/-- what holds of a directory that was ended -/
def visR (M0 : FM) (s : RS) (z : Int) : Prop := 0 ≤ rP s z ∧ ∀ j : Nat, j < ec M0 z → 0 ≤ rP s (M0 184 (fe M0 z + j))
theorem visR_m {s t : RS} {z : Int} (h : visR M0 s z) (g : moP s t) : visR M0 t z := ⟨g _ h.1, fun j hj => g _ (h.2 j hj)⟩
theorem rsD_P : ∀ (f : Nat) (x : Int) (o : Option RS) (s : RS), rsD M0 z ids L D f x o = some s → ∃ s0 : RS, o = some s0 ∧ moP s0 s ∧ ∀ y ∈ dlD M0 f x, visR M0 s y := by
  intro f
  induction f with
  | zero =>
    intro x o s h
    exact ⟨s, h, fun _ h => h, fun y hy => absurd hy List.not_mem_nil⟩
  | succ f IH =>
    intro x o s h
    have KP : ∀ (n : Nat) (s1 : RS), rsK M0 (rsD M0 z ids L D f) (fe M0 x) n o = some s1 → ∃ s0 : RS, o = some s0 ∧ moP s0 s1 ∧ ∀ y ∈ dlK M0 (dlD M0 f) (fe M0 x) n, visR M0 s1 y := by
      intro n
      induction n with
      | zero =>
        intro s1 h1
        exact ⟨s1, h1, fun _ h => h, fun y hy => absurd hy List.not_mem_nil⟩
      | succ n ih =>
        intro s1 h1
        unfold rsK at h1
        unfold dlK
        by_cases c : M0 171 (M0 184 (fe M0 x + n)) = 1
        · rw [if_pos c] at h1 ⊢
          obtain ⟨s2, b1, b2, b3⟩ := IH _ _ s1 h1
          obtain ⟨s0, a1, a2, a3⟩ := ih s2 b1
          refine ⟨s0, a1, moP_t a2 b2, fun y hy => ?_⟩
          rcases List.mem_append.1 hy with q | q
          · exact visR_m (a3 y q) b2
          · exact b3 y q
        · rw [if_neg c] at h1 ⊢
          exact ih s1 h1
    have h2 : rsF M0 z ids L x (rsOt M0 ids L D (fe M0 x) (ec M0 x) (rsK M0 (rsD M0 z ids L D f) (fe M0 x) (ec M0 x) o)) = some s := h
    obtain ⟨s2, c1, c2, c3⟩ := rsF_P h2
    obtain ⟨s1, b1, b2, b3⟩ := rsOt_P _ _ _ s2 c1
    obtain ⟨s0, a1, a2, a3⟩ := KP _ s1 b1
    refine ⟨s0, a1, moP_t a2 (moP_t b2 c2), fun y hy => ?_⟩
    rcases List.mem_append.1 hy with q | q
    · exact visR_m (a3 y q) (moP_t b2 c2)
    · rw [List.mem_singleton.1 q]
      exact ⟨c3, fun j hj => c2 _ (b3 j hj)⟩
/-- all nodes with numbers have their inodes -/
theorem rsD_all {sh : Nat → Option Shp} (hT : treeR sh M0) {s : RS} (h : rsD M0 z ids (nuL M0) D 101 0 (some rs0) = some s) : ∀ x ∈ nuL M0, 0 ≤ rP s x := by
  intro x hx
  obtain ⟨-, -, -, hv⟩ := rsD_P 101 0 _ s h
  obtain ⟨q1, q2⟩ := nuG_V hT 2000 x hx
  rcases q2 with e | ⟨y, hy, j, j1, j2⟩
  · have nN := hT.1.1.1
    rw [e] at q1 ⊢
    exact (hv 0 (q1 nN.2.2)).1
  · rw [j2]
    exact (hv y hy).2 j j1
end RSD
