/-! FREEZING: a listing as bytes, one spec for both sides -/
/-- an entry: start of its inode's piece, place there, number, kind, name -/
abbrev ENt := Int × Int × Int × Int × List Int
def lst (e : ENt) : Int := e.1
def lof (e : ENt) : Int := e.2.1
def lnu (e : ENt) : Int := e.2.2.1
def lkd (e : ENt) : Int := e.2.2.2.1
def lnm (e : ENt) : List Int := e.2.2.2.2
def enL (e h : ENt) : List Int := enB (lof e) (lnu e - lnu h) (lkd e) (lnm e)
def lgo (e h : ENt) : Prop := lst e = lst h ∧ -32768 ≤ lnu e - lnu h ∧ lnu e - lnu h ≤ 32767
/-- all before the last head; which entry is its first; how many it tells; their bytes; the indexes (place, start, entry) -/
abbrev LSt := List Int × Nat × Nat × List Int × List (Int × Int × Nat)
def lA (s : LSt) : List Int := s.1
def lH (s : LSt) : Nat := s.2.1
def lM (s : LSt) : Nat := s.2.2.1
def lB (s : LSt) : List Int := s.2.2.2.1
def lX (s : LSt) : List (Int × Int × Nat) := s.2.2.2.2
def lhd (m : Nat) (e : ENt) (Y : List Int) : List Int := leL ((m : Int) - 1) 4 ++ (leL (lst e) 4 ++ (leL (lnu e) 4 ++ Y))
def lsC (g : Nat → ENt) (s : LSt) : List Int := if lM s = 0 then lA s else lA s ++ lhd (lM s) (g (lH s)) (lB s)
/-- the entry i begins a group -/
def lsN (g : Nat → ENt) (s : LSt) (i : Nat) : Prop := lM s = 0 ∨ lM s = 256 ∨ (lsC g s).length / 8192 ≠ (lA s).length / 8192 ∨ ¬ lgo (g i) (g (lH s))
def lsX (z : Int) (q : Nat) (g : Nat → ENt) (s : LSt) (i : Nat) : List (Int × Int × Nat) := if lM s ≠ 0 ∧ (lsC g s).length / 8192 ≠ (lA s).length / 8192 then lX s ++ [(((lsC g s).length : Int) - q, ((clG z (lsC g s) 0 ((lsC g s).length / 8192)).length : Int), i)] else lX s
noncomputable def lsT (z : Int) (q : Nat) (g : Nat → ENt) (s : LSt) (i : Nat) : LSt := cif (lsN g s i) (lsC g s, i, 1, enL (g i) (g i), lsX z q g s i) (lA s, lH s, lM s + 1, lB s ++ enL (g i) (g (lH s)), lX s)
noncomputable def lsS (z : Int) (g : Nat → ENt) (Q : List Int) : Nat → LSt
  | 0 => (Q, 0, 0, [], [])
  | i + 1 => lsT z Q.length g (lsS z g Q i) i
/-- the entries of a group, as bytes -/
def bdL (g : Nat → ENt) (h : Nat) : Nat → List Int
  | 0 => []
  | j + 1 => bdL g h j ++ enL (g (h + j)) (g h)
theorem enB_len (rf df kd : Int) (nm : List Int) : (enB rf df kd nm).length = 8 + nm.length := by
  unfold enB
  rw [List.length_append, List.length_append, List.length_append, List.length_append, leL_len, leL_len, leL_len, leL_len]
  omega
theorem enL_len (e h : ENt) : (enL e h).length = 8 + (lnm e).length := enB_len _ _ _ _
theorem lhd_len (m : Nat) (e : ENt) (Y : List Int) : (lhd m e Y).length = 12 + Y.length := by
  unfold lhd
  rw [List.length_append, List.length_append, List.length_append, leL_len, leL_len, leL_len]
  omega
theorem ixB_len (pl st : Int) (nm : List Int) : (ixB pl st nm).length = 12 + nm.length := by
  unfold ixB
  rw [List.length_append, List.length_append, List.length_append, leL_len, leL_len, leL_len]
  omega
theorem clG_add (z : Int) (R : List Int) (k i : Nat) : ∀ j : Nat, clG z R k (i + j) = clG z R k i ++ clG z R (k + i) j
  | 0 => by
    show clG z R k i = clG z R k i ++ []
    rw [List.append_nil]
  | j + 1 => by
    show clG z R k (i + j) ++ pcY z (pcL R (k + (i + j))) = clG z R k i ++ (clG z R (k + i) j ++ pcY z (pcL R (k + i + j)))
    rw [clG_add z R k i j, List.append_assoc, show k + (i + j) = k + i + j by omega]
section LISTING
variable {z : Int} {g : Nat → ENt} {Q : List Int} {s : LSt} {i q : Nat}
theorem lsC_at (h : lM s ≠ 0) : lsC g s = lA s ++ lhd (lM s) (g (lH s)) (lB s) := if_neg h
theorem lsC_0 (h : lM s = 0) : lsC g s = lA s := if_pos h
theorem lsT_n (h : lsN g s i) : lsT z q g s i = (lsC g s, i, 1, enL (g i) (g i), lsX z q g s i) := cif_pos h
theorem lsT_o (h : ¬ lsN g s i) : lsT z q g s i = (lA s, lH s, lM s + 1, lB s ++ enL (g i) (g (lH s)), lX s) := cif_neg h
theorem lsC_new (h : lsN g s i) : lsC g (lsT z q g s i) = lsC g s ++ lhd 1 (g i) (enL (g i) (g i)) := by
  rw [lsT_n h]
  rfl
theorem lsC_old (h : ¬ lsN g s i) : lsC g (lsT z q g s i) = lA s ++ lhd (lM s + 1) (g (lH s)) (lB s ++ enL (g i) (g (lH s))) := by
  rw [lsT_o h]
  rfl
theorem lsC_A (g : Nat → ENt) (s : LSt) : (lA s).length ≤ (lsC g s).length := by
  by_cases h : lM s = 0
  · rw [lsC_0 h]
    exact Nat.le_refl _
  · rw [lsC_at h, List.length_append]
    omega
theorem lsC_mono (z : Int) (q : Nat) (g : Nat → ENt) (s : LSt) (i : Nat) : (lsC g s).length ≤ (lsC g (lsT z q g s i)).length := by
  by_cases h : lsN g s i
  · rw [lsC_new h, List.length_append]
    omega
  · have m0 : lM s ≠ 0 := fun e => h (Or.inl e)
    rw [lsC_old h, lsC_at m0, List.length_append, List.length_append, lhd_len, lhd_len, List.length_append]
    omega
theorem lsS_mono (z : Int) (g : Nat → ENt) (Q : List Int) (k : Nat) : ∀ j : Nat, (lsC g (lsS z g Q k)).length ≤ (lsC g (lsS z g Q (k + j))).length
  | 0 => Nat.le_refl _
  | j + 1 => Nat.le_trans (lsS_mono z g Q k j) (lsC_mono z Q.length g (lsS z g Q (k + j)) (k + j))
theorem lsS_le (z : Int) (g : Nat → ENt) (Q : List Int) {k m : Nat} (h : k ≤ m) : (lsC g (lsS z g Q k)).length ≤ (lsC g (lsS z g Q m)).length := by
  have := lsS_mono z g Q k (m - k)
  rw [show k + (m - k) = m by omega] at this
  exact this
/-- what always holds of the state behind k entries -/
def lsI (g : Nat → ENt) (Q : List Int) (k : Nat) (s : LSt) : Prop := (∃ Y : List Int, lA s = Q ++ Y) ∧ lM s ≤ 256 ∧ (k = 0 → lM s = 0) ∧ (0 < k → 1 ≤ lM s ∧ lH s + lM s = k ∧ lB s = bdL g (lH s) (lM s)) ∧ (lX s).length + Q.length / 8192 ≤ (lA s).length / 8192 ∧ ∀ p ∈ lX s, (0 ≤ p.1 ∧ p.1 ≤ (lA s).length) ∧ (0 ≤ p.2.1 ∧ p.2.1 ≤ 8194 * ((lA s).length / 8192 : Nat)) ∧ p.2.2 < k
theorem lsC_pre2 (h : ∃ Y : List Int, lA s = Q ++ Y) : ∃ Y : List Int, lsC g s = Q ++ Y := by
  obtain ⟨Y, hY⟩ := h
  by_cases e : lM s = 0
  · exact ⟨Y, by rw [lsC_0 e, hY]⟩
  · exact ⟨Y ++ lhd (lM s) (g (lH s)) (lB s), by rw [lsC_at e, hY, List.append_assoc]⟩
theorem lsS_I (z : Int) (g : Nat → ENt) (Q : List Int) : ∀ k : Nat, lsI g Q k (lsS z g Q k)
  | 0 => by
    refine ⟨⟨[], (List.append_nil Q).symm⟩, Nat.zero_le _, fun _ => rfl, fun h => by omega, ?_, fun p hp => ?_⟩
    · show 0 + Q.length / 8192 ≤ Q.length / 8192
      omega
    · exact absurd hp (List.not_mem_nil)
  | k + 1 => by
    obtain ⟨a1, a2, a3, a4, a5, a6⟩ := lsS_I z g Q k
    obtain ⟨s, hs⟩ : ∃ s : LSt, s = lsS z g Q k := ⟨_, rfl⟩
    show lsI g Q (k + 1) (lsT z Q.length g (lsS z g Q k) k)
    rw [← hs] at a1 a2 a3 a4 a5 a6 ⊢
    have cA := lsC_A g s
    by_cases h : lsN g s k
    · rw [lsT_n h]
      refine ⟨lsC_pre2 a1, by show 1 ≤ 256; omega, fun e => by omega, fun _ => ⟨Nat.le_refl 1, rfl, rfl⟩, ?_, ?_⟩
      · show (lsX z Q.length g s k).length + Q.length / 8192 ≤ (lsC g s).length / 8192
        unfold lsX
        split
        · rename_i w
          rw [List.length_append]
          have : ([(((lsC g s).length : Int) - Q.length, ((clG z (lsC g s) 0 ((lsC g s).length / 8192)).length : Int), k)] : List (Int × Int × Nat)).length = 1 := rfl
          have w2 := w.2
          omega
        · omega
      · obtain ⟨Y, hY⟩ := a1
        have lY : (lA s).length = Q.length + Y.length := by rw [hY, List.length_append]
        have OLD : ∀ p ∈ lX s, (0 ≤ p.1 ∧ p.1 ≤ (lsC g s).length) ∧ (0 ≤ p.2.1 ∧ p.2.1 ≤ 8194 * ((lsC g s).length / 8192 : Nat)) ∧ p.2.2 < k + 1 := fun p hp => by
          obtain ⟨b1, b2, b3⟩ := a6 p hp
          exact ⟨by omega, by omega, by omega⟩
        show ∀ p ∈ lsX z Q.length g s k, (0 ≤ p.1 ∧ p.1 ≤ (lsC g s).length) ∧ (0 ≤ p.2.1 ∧ p.2.1 ≤ 8194 * ((lsC g s).length / 8192 : Nat)) ∧ p.2.2 < k + 1
        intro p hp
        unfold lsX at hp
        split at hp
        · rcases List.mem_append.1 hp with w | w
          · exact OLD p w
          · rw [List.mem_singleton.1 w]
            have cl := clG_len (z := z) (R := lsC g s) (k := 0) ((lsC g s).length / 8192)
            refine ⟨?_, ?_, by show k < k + 1; omega⟩
            · show 0 ≤ ((lsC g s).length : Int) - Q.length ∧ ((lsC g s).length : Int) - Q.length ≤ (lsC g s).length
              omega
            · show 0 ≤ ((clG z (lsC g s) 0 ((lsC g s).length / 8192)).length : Int) ∧ ((clG z (lsC g s) 0 ((lsC g s).length / 8192)).length : Int) ≤ 8194 * ((lsC g s).length / 8192 : Nat)
              omega
        · exact OLD p hp
    · rw [lsT_o h]
      have m0 : lM s ≠ 0 := fun e => h (Or.inl e)
      have m1 : lM s ≠ 256 := fun e => h (Or.inr (Or.inl e))
      have k0 : 0 < k := by
        rcases Nat.eq_zero_or_pos k with e | e
        · exact absurd (a3 e) m0
        · exact e
      obtain ⟨b1, b2, b3⟩ := a4 k0
      refine ⟨a1, by show lM s + 1 ≤ 256; omega, fun e => by omega, fun _ => ⟨by show 1 ≤ lM s + 1; omega, by show lH s + (lM s + 1) = k + 1; omega, ?_⟩, a5, fun p hp => ?_⟩
      · show lB s ++ enL (g k) (g (lH s)) = bdL g (lH s) (lM s) ++ enL (g (lH s + lM s)) (g (lH s))
        rw [b3, b2]
      · obtain ⟨c1, c2, c3⟩ := a6 p hp
        exact ⟨c1, c2, by omega⟩
theorem lsC_pre (z : Int) (g : Nat → ENt) (Q : List Int) (k : Nat) : ∃ Y : List Int, lsC g (lsS z g Q k) = Q ++ Y := lsC_pre2 (lsS_I z g Q k).1
/-- the same entries, the same listing -/
theorem lsS_cg {g2 : Nat → ENt} (z : Int) (Q : List Int) : ∀ k : Nat, (∀ j : Nat, j < k → g2 j = g j) → lsS z g2 Q k = lsS z g Q k ∧ lsC g2 (lsS z g Q k) = lsC g (lsS z g Q k)
  | 0, _ => ⟨rfl, rfl⟩
  | k + 1, h => by
    obtain ⟨e1, e2⟩ := lsS_cg z Q k (fun j hj => h j (by omega))
    obtain ⟨a1, a2, a3, a4, a5, a6⟩ := lsS_I z g Q k
    obtain ⟨b1, b2, b3, b4, b5, b6⟩ := lsS_I z g Q (k + 1)
    obtain ⟨b7, b8, b9⟩ := b4 (by omega)
    have hk := h k (by omega)
    have E : lsT z Q.length g2 (lsS z g2 Q k) k = lsT z Q.length g (lsS z g Q k) k := by
      rw [e1]
      obtain ⟨s, hs⟩ : ∃ s : LSt, s = lsS z g Q k := ⟨_, rfl⟩
      rw [← hs] at a1 a2 a3 a4 a5 a6 e2 ⊢
      have hH : lM s ≠ 0 → g2 (lH s) = g (lH s) := fun m0 => by
        rcases Nat.eq_zero_or_pos k with e | e
        · exact absurd (a3 e) m0
        · have := a4 e
          exact h _ (by omega)
      have N : lsN g2 s k ↔ lsN g s k := by
        unfold lsN
        rw [e2, hk]
        by_cases m0 : lM s = 0
        · exact ⟨fun _ => Or.inl m0, fun _ => Or.inl m0⟩
        · rw [hH m0]
      by_cases w : lsN g s k
      · rw [lsT_n w, lsT_n (N.2 w), e2, hk]
        unfold lsX
        rw [e2]
      · rw [lsT_o w, lsT_o (fun q => w (N.1 q)), hk, hH (fun e => w (Or.inl e))]
    refine ⟨E, ?_⟩
    unfold lsC
    rw [h _ (by omega)]
end LISTING
/-- one byte of a row put anew -/
theorem sl_patch {f : Int → Int} {A Y : List Int} {x v : Int} (h : sl f 0 (A ++ x :: Y).length = A ++ x :: Y) : sl (ur f A.length v) 0 (A ++ (v % 256) :: Y).length = A ++ (v % 256) :: Y := by
  have l1 : (A ++ x :: Y).length = A.length + (Y.length + 1) := by rw [List.length_append, List.length_cons]
  have l2 : (A ++ (v % 256) :: Y).length = A.length + (Y.length + 1) := by rw [List.length_append, List.length_cons]
  have H : ∀ j : Nat, j < A.length + (Y.length + 1) → (A ++ x :: Y)[j]? = some (f j % 256) := fun j hj => by
    rw [l1] at h
    have := sl_get (f := f) (A.length + (Y.length + 1)) 0 j hj
    rw [h, Int.zero_add] at this
    exact this
  refine sl_of (fun i y hy => ?_)
  have hi : i < A.length + (Y.length + 1) := by
    have := (List.getElem?_eq_some_iff.1 hy).1
    omega
  by_cases e : i = A.length
  · rw [e, ur_at]
    rw [e, List.getElem?_append_right (Nat.le_refl _), Nat.sub_self] at hy
    exact Option.some.inj hy
  · rw [ur_ne (by omega)]
    have h2 := H i hi
    by_cases c : i < A.length
    · rw [List.getElem?_append_left c] at hy h2
      rw [hy] at h2
      exact (Option.some.inj h2).symm
    · rw [List.getElem?_append_right (by omega)] at hy h2
      obtain ⟨j, hj⟩ : ∃ j, i - A.length = j + 1 := ⟨i - A.length - 1, by omega⟩
      rw [hj, List.getElem?_cons_succ] at hy h2
      rw [hy] at h2
      exact (Option.some.inj h2).symm
