/-! FREEZING: what it hangs on; the data's bounds -/
section CONGR
variable {M0 M : FM}
theorem fe_cg (h : tsR M0 M) (F : Int) : fe M F = fe M0 F ∧ ec M F = ec M0 F := by
  unfold fe ec
  rw [h.2 20 (by omega), h.1 183 (by omega) (by omega)]
  exact ⟨rfl, rfl⟩
theorem nuA_cg (h : tsR M0 M) (L : List Int) (e : Int) : ∀ n : Nat, nuA M L e n = nuA M0 L e n
  | 0 => rfl
  | n + 1 => by
    show (if M 184 (e + n) ∈ nuA M L e n then nuA M L e n else nuA M L e n ++ [M 184 (e + n)]) = if M0 184 (e + n) ∈ nuA M0 L e n then nuA M0 L e n else nuA M0 L e n ++ [M0 184 (e + n)]
    rw [nuA_cg h L e n, h.1 184 (by omega) (by omega)]
theorem nuG_cg (h : tsR M0 M) : ∀ k : Nat, nuG M k = nuG M0 k
  | 0 => rfl
  | k + 1 => by
    show (match (nuG M k)[k]? with
      | none => nuG M k
      | some x => nuA M (nuG M k) (fe M x) (ec M x)) = match (nuG M0 k)[k]? with
      | none => nuG M0 k
      | some x => nuA M0 (nuG M0 k) (fe M0 x) (ec M0 x)
    rw [nuG_cg h k]
    cases (nuG M0 k)[k]? with
    | none => rfl
    | some x =>
      show nuA M (nuG M0 k) (fe M x) (ec M x) = nuA M0 (nuG M0 k) (fe M0 x) (ec M0 x)
      rw [(fe_cg h x).1, (fe_cg h x).2, nuA_cg h]
theorem nuL_cg (h : tsR M0 M) : nuL M = nuL M0 := nuG_cg h 2000
theorem idK_cg (h : tsR M0 M) (L : List Int) : ∀ k : Nat, idK M L k = idK M0 L k
  | 0 => rfl
  | k + 1 => by
    show (match L[k]? with
      | none => idK M L k
      | some x => nuX (nuX (idK M L k) (M 173 x)) (M 174 x)) = match L[k]? with
      | none => idK M0 L k
      | some x => nuX (nuX (idK M0 L k) (M0 173 x)) (M0 174 x)
    rw [idK_cg h L k, h.1 173 (by omega) (by omega), h.1 174 (by omega) (by omega)]
theorem idL_cg (h : tsR M0 M) : idL M = idL M0 := by
  unfold idL
  rw [nuL_cg h, idK_cg h]
theorem fbL_cg (h : tsR M0 M) (x : Int) : fbL M x = fbL M0 x := by
  unfold fbL
  rw [h.1 181 (by omega) (by omega), h.1 179 (by omega) (by omega), h.1 180 (by omega) (by omega)]
theorem twX_ts (h : tsR M0 M) (L : List Int) (x : Int) : ∀ k : Nat, twX M L x k = twX M0 L x k
  | 0 => rfl
  | k + 1 => by
    unfold twX
    rw [twX_ts h L x k]
    cases twX M0 L x k with
    | some y => rfl
    | none =>
      cases L[k]? with
      | none => rfl
      | some y =>
        show (if M 171 y = 2 ∧ fbL M y = fbL M x then some y else none) = if M0 171 y = 2 ∧ fbL M0 y = fbL M0 x then some y else none
        rw [h.1 171 (by omega) (by omega), fbL_cg h, fbL_cg h]
theorem dtD_cg (h : tsR M0 M) (op : Int) (B : Nat) (L : List Int) : ∀ k : Nat, dtD M op B L k = dtD M0 op B L k
  | 0 => rfl
  | k + 1 => by
    unfold dtD
    rw [dtD_cg h op B L k]
    cases L[k]? with
    | none => rfl
    | some x =>
      show dtX M op B L k (dtD M0 op B L k) x = dtX M0 op B L k (dtD M0 op B L k) x
      unfold dtX
      rw [h.1 171 (by omega) (by omega), twX_ts h, fbL_cg h]
theorem dtE_cg (h : tsR M0 M) (op : Int) (B : Nat) (L : List Int) : dtE M op B L = dtE M0 op B L := by
  unfold dtE
  rw [dtD_cg h]
end CONGR
section BASE
variable {M0 : FM} {op : Int} {B : Nat} {L : List Int}
theorem clD_96 {s : DS} (h : 96 ≤ (dI s).length) : 96 ≤ (dI (clD op s)).length := by
  unfold clD
  split
  · exact h
  · show 96 ≤ (dI s ++ (stB op (dF s)).1).length
    rw [List.length_append]
    omega
theorem bkD_96 {X : List Int} {x : Int} {s : DS} (h : 96 ≤ (dI s).length) : ∀ i : Nat, 96 ≤ (dI (bkD op B X x s i)).length
  | 0 => h
  | i + 1 => by
    have ih := bkD_96 (X := X) (x := x) h i
    show 96 ≤ (if chk X B i = List.replicate (chk X B i).length 0 then dI (bkD op B X x s i) else dI (bkD op B X x s i) ++ (stB op (chk X B i)).1).length
    split
    · exact ih
    · rw [List.length_append]
      omega
theorem fiR_96 {X : List Int} {x : Int} {s : DS} (h : 96 ≤ (dI s).length) : 96 ≤ (dI (fiR op B X x s)).length := by
  unfold fiR
  split
  · exact h
  · show 96 ≤ (dI (if (B : Int) < (dF s).length + rsN op B X.length then clD op s else s)).length
    split
    · exact clD_96 h
    · exact h
theorem dtD_96 (M0 : FM) (op : Int) (B : Nat) (L : List Int) : ∀ k : Nat, 96 ≤ (dI (dtD M0 op B L k)).length
  | 0 => by
    show 96 ≤ (List.replicate 96 (0 : Int)).length
    rw [List.length_replicate]
    omega
  | k + 1 => by
    have ih := dtD_96 M0 op B L k
    unfold dtD
    cases L[k]? with
    | none => exact ih
    | some x =>
      show 96 ≤ (dI (dtX M0 op B L k (dtD M0 op B L k) x)).length
      unfold dtX
      split
      · cases twX M0 L x k with
        | some y => exact ih
        | none => exact fiR_96 (bkD_96 (s := fi0 op B (fbL M0 x) x (dtD M0 op B L k)) ih _)
      · exact ih
/-- the data, bounded -/
theorem dtE_b (hW : twR M0) (hP : nuP M0 L) (hB : bB5 B) : ((∀ b ∈ dB (dtE M0 op B L), 0 ≤ b ∧ b ≤ 16842752) ∧ (dB (dtE M0 op B L)).length ≤ 2016 ∧ ∀ j x : Int, -1 ≤ dN (dtE M0 op B L) j x ∧ dN (dtE M0 op B L) j x ≤ 200000) ∧ (∀ t ∈ dT (dtE M0 op B L), (0 ≤ t.1 ∧ t.1 ≤ 131072) ∧ 0 ≤ t.2 ∧ t.2 ≤ 16842752) ∧ (dT (dtE M0 op B L)).length ≤ 500 ∧ 96 ≤ (dI (dtE M0 op B L)).length ∧ (dI (dtE M0 op B L)).length ≤ 131072 := by
  have LL := nuP_len hW hP
  have br := bB5_r hB
  have sz := szS_le2 hW hP L.length
  obtain ⟨⟨⟨q1, q2, q3⟩, ⟨A, a1, a2, a3⟩, q4, q5, q6⟩, q7⟩ := dtD_q (op := op) hW hP hB L.length (Nat.le_refl _)
  have g96 := dtD_96 M0 op B L L.length
  unfold dtE
  obtain ⟨s, hs⟩ : ∃ s, s = dtD M0 op B L L.length := ⟨_, rfl⟩
  rw [← hs] at q1 q2 q3 a2 a3 q4 q5 q6 g96 ⊢
  rw [(clD_n (op := op) (s := s)).1, (clD_n (op := op) (s := s)).2]
  refine ⟨⟨q4, by omega, q6⟩, ?_, ?_, clD_96 g96, ?_⟩
  · unfold clD
    split
    · exact q5
    · intro t ht
      rcases List.mem_append.1 ht with w | w
      · exact q5 t w
      · have e := List.mem_singleton.1 w
        have n := stB_num op (dF s) (by omega)
        rw [e]
        show (0 ≤ ((dI s).length : Int) ∧ ((dI s).length : Int) ≤ 131072) ∧ 0 ≤ (stB op (dF s)).2 ∧ (stB op (dF s)).2 ≤ 16842752
        omega
  · unfold clD
    split
    · omega
    · show (dT s ++ [_]).length ≤ 500
      rw [List.length_append]
      show (dT s).length + 1 ≤ 500
      omega
  · unfold clD
    split
    · omega
    · show (dI s ++ (stB op (dF s)).1).length ≤ 131072
      have l := stB_len op (dF s)
      rw [List.length_append]
      omega
/-- all of it -/
theorem sx_of (hW : twR M0) (hop : 0 ≤ op ∧ op ≤ 15) (hB : bB5 B) : sxC M0 op B (nuL M0) (idL M0) (dtE M0 op B (nuL M0)) := by
  have hP : nuP M0 (nuL M0) := nuG_P hW 2000
  have LL := nuP_len hW hP
  obtain ⟨d1, -⟩ := dtE_b (op := op) hW hP hB
  refine ⟨hW, hop, hB, hP, ⟨nuL_0 M0, nuL_cl hW⟩, ⟨idK_rng hW hP _, ?_, fun x hx => ?_⟩, d1, fun y hy y2 => ?_⟩
  · have := idK_len M0 (nuL M0) (nuL M0).length
    unfold idL
    omega
  · obtain ⟨i, hi, ex⟩ := List.getElem_of_mem hx
    exact idK_mem _ i x hi (by rw [← ex]; exact List.getElem?_eq_getElem hi)
  · obtain ⟨i, hi, ex⟩ := List.getElem_of_mem hy
    exact dtE_f hW hP hB (i := i) (by rw [← ex]; exact List.getElem?_eq_getElem hi) y2
end BASE
/-- the rows of a tree, frozen so -/
noncomputable def fzO (M0 : FM) (op : Int) (B : Nat) : Option RS := rsD M0 (1 - op % 2) (idL M0) (nuL M0) (dtE M0 op B (nuL M0)) 101 0 (some rs0)
/-- references of nodes, as the tables have them -/
def fzR (op : Int) (s : RS) (x : Int) : Int := stI (1 - op % 2) (rI s) (rP s x) * 65536 + rP s x % 8192
/-- the image behind its head -/
def fzT (M0 : FM) (op : Int) (B : Nat) (s : RS) : List Int := tX5 (1 - op % 2) (tX4 (1 - op % 2) op (tX3 (1 - op % 2) ((dI (dtE M0 op B (nuL M0)) ++ clG (1 - op % 2) (rI s) 0 (pcN (rI s).length)) ++ clG (1 - op % 2) (rQ s) 0 (pcN (rQ s).length)) (dT (dtE M0 op B (nuL M0)))) (exL (fzR op s) (nuL M0))) (idL M0)
/-- the image -/
def fzX (M0 : FM) (lg op wh : Int) (B : Nat) (s : RS) : List Int := fIM (1 - op % 2) op B lg wh (nuL M0).length (dI (dtE M0 op B (nuL M0))).length (fzR op s 0) (dI (dtE M0 op B (nuL M0)) ++ clG (1 - op % 2) (rI s) 0 (pcN (rI s).length)) (clG (1 - op % 2) (rQ s) 0 (pcN (rQ s).length)) (exL (fzR op s) (nuL M0)) (idL M0) (dT (dtE M0 op B (nuL M0)))
