/-! FREEZING: data: what both compute -/
/-- the image so far, block numbers, the open fragment, the closed ones (begin, number), and of a node x: 0 begin, 1 first block, 2 blocks, 3 bytes of zeros, 4 fragment, 5 place there -/
abbrev DS : Type := List Int × List Int × List Int × List (Int × Int) × (Int → Int → Int)
def dI (s : DS) : List Int := s.1
def dB (s : DS) : List Int := s.2.1
def dF (s : DS) : List Int := s.2.2.1
def dT (s : DS) : List (Int × Int) := s.2.2.2.1
def dN (s : DS) : Int → Int → Int := s.2.2.2.2
def setN (g : Int → Int → Int) (j x v : Int) : Int → Int → Int := fun j2 x2 => if j2 = j ∧ x2 = x then v else g j2 x2
theorem setN_at (g : Int → Int → Int) (j x v : Int) : setN g j x v j x = v := if_pos ⟨rfl, rfl⟩
theorem setN_ne {g : Int → Int → Int} {j x v j2 x2 : Int} (h : j2 ≠ j ∨ x2 ≠ x) : setN g j x v j2 x2 = g j2 x2 := if_neg (fun q => by
  rcases h with z | z
  · exact z q.1
  · exact z q.2)
/-- a file's bytes -/
def fbL (M : FM) (x : Int) : List Int := sl (M 181) (M 179 x) (M 180 x).toNat
def pbD (op : Int) (s : DS) (x : Int) (X : List Int) : DS := (if X = List.replicate X.length 0 then dI s else dI s ++ (stB op X).1, dB s ++ [if X = List.replicate X.length 0 then 0 else (stB op X).2], dF s, dT s, setN (setN (dN s) 3 x (dN s 3 x + (if X = List.replicate X.length 0 then (X.length : Int) else 0))) 2 x (dN s 2 x + 1))
def chk (X : List Int) (B i : Nat) : List Int := (X.drop (i * B)).take B
def bkD (op : Int) (B : Nat) (X : List Int) (x : Int) (s : DS) : Nat → DS
  | 0 => s
  | i + 1 => pbD op (bkD op B X x s i) x (chk X B i)
def clD (op : Int) (s : DS) : DS := if dF s = [] then s else (dI s ++ (stB op (dF s)).1, dB s, [], dT s ++ [(((dI s).length : Int), (stB op (dF s)).2)], dN s)
/-- a file's numbers, before its blocks -/
def fi0 (op : Int) (B : Nat) (X : List Int) (x : Int) (s : DS) : DS := (dI s, dB s, dF s, dT s, setN (setN (setN (setN (setN (setN (dN s) 0 x (if 0 < bkN op B X.length then ((dI s).length : Int) else 0)) 1 x (dB s).length) 2 x 0) 3 x 0) 4 x (-1)) 5 x 0)
/-- the rest of a file -/
def fiR (op : Int) (B : Nat) (X : List Int) (x : Int) (s : DS) : DS := if rsN op B X.length = 0 then s else
  (dI (if (B : Int) < (dF s).length + rsN op B X.length then clD op s else s), dB s, dF (if (B : Int) < (dF s).length + rsN op B X.length then clD op s else s) ++ X.drop (X.length - (rsN op B X.length).toNat), dT (if (B : Int) < (dF s).length + rsN op B X.length then clD op s else s), setN (setN (dN s) 4 x (dT (if (B : Int) < (dF s).length + rsN op B X.length then clD op s else s)).length) 5 x (dF (if (B : Int) < (dF s).length + rsN op B X.length then clD op s else s)).length)
def fiD (op : Int) (B : Nat) (X : List Int) (x : Int) (s : DS) : DS := fiR op B X x (bkD op B X x (fi0 op B X x s) (bkN op B X.length).toNat)
/-- the first file before the k-th node that has the same bytes -/
def twX (M : FM) (L : List Int) (x : Int) : Nat → Option Int
  | 0 => none
  | k + 1 => match twX M L x k with
    | some y => some y
    | none => match L[k]? with
      | some y => if M 171 y = 2 ∧ fbL M y = fbL M x then some y else none
      | none => none
def cpN (g : Int → Int → Int) (x y : Int) : Int → Int → Int := fun j z => if z = x then g j y else g j z
def dtX (M : FM) (op : Int) (B : Nat) (L : List Int) (k : Nat) (s : DS) (x : Int) : DS := if M 171 x = 2 then (match twX M L x k with
    | some y => (dI s, dB s, dF s, dT s, cpN (dN s) x y)
    | none => fiD op B (fbL M x) x s) else s
def dtD (M : FM) (op : Int) (B : Nat) (L : List Int) : Nat → DS
  | 0 => (List.replicate 96 0, [], [], [], fun _ _ => 0)
  | k + 1 => match L[k]? with
    | none => dtD M op B L k
    | some x => dtX M op B L k (dtD M op B L k) x
def dtE (M : FM) (op : Int) (B : Nat) (L : List Int) : DS := clD op (dtD M op B L L.length)
/-- the files' bytes, all together -/
def szS (M : FM) (L : List Int) : Nat → Int
  | 0 => 0
  | k + 1 => szS M L k + (match L[k]? with
    | none => 0
    | some x => if M 171 x = 2 then M 180 x else 0)
def covL (M : FM) : List Int → Nat → Int
  | [], _ => 0
  | x :: r, p => (if M 179 x ≤ p ∧ p < M 179 x + M 180 x then 1 else 0) + covL M r p
theorem smF_le {g : Nat → Int} : ∀ n : Nat, (∀ i : Nat, i < n → g i ≤ 1) → smF g n ≤ n
  | 0, _ => by
    show (0 : Int) ≤ ((0 : Nat) : Int)
    omega
  | n + 1, h => by
    have ih := smF_le n (fun i hi => h i (by omega))
    have q := h n (by omega)
    show smF g n + g n ≤ ((n + 1 : Nat) : Int)
    omega
theorem smF_ind {a s : Int} (h0 : 0 ≤ a) (h1 : 0 ≤ s) : ∀ n : Nat, smF (fun p => if a ≤ (p : Int) ∧ (p : Int) < a + s then 1 else 0) n = max 0 (min (n - a) s)
  | 0 => by
    show (0 : Int) = max 0 (min (((0 : Nat) : Int) - a) s)
    omega
  | n + 1 => by
    have ih := smF_ind h0 h1 n
    show smF (fun p => if a ≤ (p : Int) ∧ (p : Int) < a + s then 1 else 0) n + (if a ≤ (n : Int) ∧ (n : Int) < a + s then 1 else 0) = max 0 (min (((n + 1 : Nat) : Int) - a) s)
    rw [ih]
    split <;> omega
section SIZES
variable {M : FM}
theorem cov_0 (hW : twR M) {x : Int} {p : Nat} : ∀ l : List Int, (∀ y ∈ l, (0 ≤ y ∧ y < M 168 5) ∧ M 171 y = 2) → x ∉ l → ((0 ≤ x ∧ x < M 168 5) ∧ M 171 x = 2) → (M 179 x ≤ p ∧ (p : Int) < M 179 x + M 180 x) → covL M l p = 0
  | [], _, _, _, _ => rfl
  | y :: r, h, hn, hx, hp => by
    have ih := cov_0 hW r (fun z hz => h z (List.mem_cons_of_mem _ hz)) (fun q => hn (List.mem_cons_of_mem _ q)) hx hp
    have hy := h y (List.mem_cons_self ..)
    have ne : x ≠ y := fun q => hn (by rw [q]; exact List.mem_cons_self ..)
    have d := hW.2.2.1 x y hx.1.1 hx.1.2 hy.1.1 hy.1.2 ne (by omega) (Or.inl hx.2)
    show (if M 179 y ≤ p ∧ (p : Int) < M 179 y + M 180 y then 1 else 0) + covL M r p = 0
    rw [ih, if_neg (by omega)]
    rfl
theorem cov_1 (hW : twR M) (p : Nat) : ∀ l : List Int, l.Nodup → (∀ y ∈ l, (0 ≤ y ∧ y < M 168 5) ∧ M 171 y = 2) → covL M l p ≤ 1
  | [], _, _ => by
    show (0 : Int) ≤ 1
    omega
  | y :: r, hn, h => by
    have nd := List.nodup_cons.1 hn
    have ih := cov_1 hW p r nd.2 (fun z hz => h z (List.mem_cons_of_mem _ hz))
    show (if M 179 y ≤ p ∧ (p : Int) < M 179 y + M 180 y then 1 else 0) + covL M r p ≤ 1
    by_cases c : M 179 y ≤ p ∧ (p : Int) < M 179 y + M 180 y
    · rw [if_pos c, cov_0 hW r (fun z hz => h z (List.mem_cons_of_mem _ hz)) nd.1 (h y (List.mem_cons_self ..)) c]
      omega
    · rw [if_neg c]
      omega
def sumZ (M : FM) : List Int → Int
  | [] => 0
  | x :: r => M 180 x + sumZ M r
theorem cov_sum (hW : twR M) : ∀ l : List Int, (∀ y ∈ l, (0 ≤ y ∧ y < M 168 5) ∧ M 171 y = 2) → smF (covL M l) (M 168 17).toNat = sumZ M l
  | [], _ => smF_0 _ (fun _ _ => rfl)
  | y :: r, h => by
    have ih := cov_sum hW r (fun z hz => h z (List.mem_cons_of_mem _ hz))
    have hy := h y (List.mem_cons_self ..)
    have b := (hW.2.1.2 y hy.1.1 hy.1.2)
    have b2 := b.2.1 hy.2
    have t := hW.2.1.1
    have e : smF (covL M (y :: r)) (M 168 17).toNat = smF (fun p => (if M 179 y ≤ (p : Int) ∧ (p : Int) < M 179 y + M 180 y then 1 else 0) + covL M r p) (M 168 17).toNat := rfl
    rw [e, smF_add, ih, smF_ind b.1.1 b.1.2]
    show max 0 (min (((M 168 17).toNat : Int) - M 179 y) (M 180 y)) + sumZ M r = M 180 y + sumZ M r
    omega
theorem sumZ_le (hW : twR M) {l : List Int} (hn : l.Nodup) (h : ∀ y ∈ l, (0 ≤ y ∧ y < M 168 5) ∧ M 171 y = 2) : sumZ M l ≤ M 168 17 := by
  have t := hW.2.1.1
  have := smF_le (g := covL M l) (M 168 17).toNat (fun i _ => cov_1 hW i l hn h)
  rw [cov_sum hW l h] at this
  omega
theorem sumZ_app : ∀ (l : List Int) (x : Int), sumZ M (l ++ [x]) = sumZ M l + M 180 x
  | [], x => by
    show M 180 x + 0 = 0 + M 180 x
    omega
  | y :: r, x => by
    show M 180 y + sumZ M (r ++ [x]) = M 180 y + sumZ M r + M 180 x
    rw [sumZ_app r x]
    omega
theorem szS_ex {L : List Int} (hP : nuP M L) : ∀ k : Nat, ∃ l : List Int, l.Nodup ∧ (∀ y ∈ l, ((0 ≤ y ∧ y < M 168 5) ∧ M 171 y = 2) ∧ ∃ j : Nat, j < k ∧ L[j]? = some y) ∧ sumZ M l = szS M L k
  | 0 => ⟨[], List.nodup_nil, (fun y hy => by cases hy), rfl⟩
  | k + 1 => by
    obtain ⟨l, h1, h2, h3⟩ := szS_ex hP k
    have U : ∀ y ∈ l, ((0 ≤ y ∧ y < M 168 5) ∧ M 171 y = 2) ∧ ∃ j : Nat, j < k + 1 ∧ L[j]? = some y := fun y hy => by
      obtain ⟨a, j, j1, j2⟩ := h2 y hy
      exact ⟨a, j, by omega, j2⟩
    have e : szS M L (k + 1) = szS M L k + (match L[k]? with
      | none => 0
      | some x => if M 171 x = 2 then M 180 x else 0) := rfl
    cases hk : L[k]? with
    | none =>
      rw [hk] at e
      have e2 : szS M L (k + 1) = szS M L k + 0 := e
      exact ⟨l, h1, U, by rw [e2, h3]; omega⟩
    | some x =>
      rw [hk] at e
      have e2 : szS M L (k + 1) = szS M L k + (if M 171 x = 2 then M 180 x else 0) := e
      by_cases c : M 171 x = 2
      · rw [if_pos c] at e2
        have xl := (hP.2 x (List.mem_of_getElem? hk)).1
        refine ⟨l ++ [x], ?_, fun y hy => ?_, by rw [sumZ_app, e2, h3]⟩
        · rw [List.nodup_append]
          refine ⟨h1, by simp, fun a ha b hb q => ?_⟩
          rw [List.mem_singleton.1 hb] at q
          rw [q] at ha
          obtain ⟨_, j, j1, j2⟩ := h2 x ha
          have := nd_inj hP.1 j2 hk
          omega
        · rcases List.mem_append.1 hy with z | z
          · exact U y z
          · rw [List.mem_singleton.1 z]
            exact ⟨⟨xl, c⟩, k, by omega, hk⟩
      · rw [if_neg c] at e2
        exact ⟨l, h1, U, by rw [e2, h3]; omega⟩
theorem szS_le2 (hW : twR M) {L : List Int} (hP : nuP M L) (k : Nat) : szS M L k ≤ 65536 := by
  obtain ⟨l, h1, h2, h3⟩ := szS_ex hP k
  have := sumZ_le hW h1 (fun y hy => (h2 y hy).1)
  have t := hW.2.1.1
  omega
end SIZES
