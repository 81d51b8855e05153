/-! MOUNTING: the data; one spec for both sides -/
noncomputable def bdS (f : Int → Int) (B a x : Int) : Option (List Int) := if 16777216 ≤ x then some (sl f a (x % 16777216).toNat) else unS f a (x % 16777216) B
def rvO : Option (List Int) → Int
  | none => -1
  | some o => o.length
def blN (g : Int → Int) (p i : Int) : Int := le g (p + fxT (le g p 2) + 4 * i) 4
def bbN (B : Int) (g : Int → Int) (p i : Int) : Int := min B (fSz g p - i * B)
def bkC (B : Int) (g : Int → Int) (p : Int) : Int := bcN B (fSz g p) (fFr g p)
def fBg (g : Int → Int) (p : Int) : Int := if le g p 2 ≤ 7 then le g (p + 16) 4 else s64 (le g (p + 16) 8)
def sbF (B : Int) (g : Int → Int) (p : Int) : Nat → Int
  | 0 => 0
  | k + 1 => if blN g p k = 0 then sbF B g p k else sbF B g p k + bbN B g p k
def saD (B F : Int) (g pl kd : Int → Int) : Nat → Int
  | 0 => F * B
  | m + 1 => if kd (m + 1) = 2 then saD B F g pl kd m + sbF B g (pl (m + 1)) (bkC B g (pl (m + 1))).toNat else saD B F g pl kd m
def bwP (f g : Int → Int) (B A p : Int) : Nat → Int → Int → Prop
  | 0, _, _ => True
  | m + 1, i, a => (blN g p i ≠ 0 → (96 ≤ a ∧ a ≤ A - blN g p i % 16777216 ∧ rvO (bdS f B a (blN g p i)) = bbN B g p i) ∧ bwP f g B A p m (i + 1) (a + blN g p i % 16777216)) ∧ (blN g p i = 0 → bwP f g B A p m (i + 1) a)
noncomputable def fsF (f : Int → Int) (B : Int) (fg : Int → Int) : Int → Int := fun k => rvO (bdS f B (s64 (le fg (16 * k) 8)) (le fg (16 * k + 8) 4))
def fdP (f g fs : Int → Int) (B A p : Int) : Prop := (fFr g p ≠ 4294967295 → fOf g p + fSz g p % B ≤ fs (fFr g p)) ∧ bwP f g B A p (bkC B g p).toNat 0 (fBg g p)
def dtP (f g fg : Int → Int) (B F A n : Int) (pl kd : Int → Int) : Prop := saD B F g pl kd n.toNat ≤ 4194304 ∧ (∀ k : Int, 0 ≤ k → k < F → 0 ≤ fsF f B fg k) ∧ ∀ j : Int, 1 ≤ j → j ≤ n → kd j = 2 → fdP f g (fsF f B fg) B A (pl j)
theorem bdS_cg {f g : Int → Int} {s B a x : Int} (h : agr f g s) (ha : 0 ≤ a) (hs : a + x % 16777216 ≤ s) : bdS f B a x = bdS g B a x := by
  unfold bdS
  split
  · rw [sl_agr h ha (by omega)]
  · exact unS_cg h ha hs
theorem bdS_r {f : Int → Int} {B a x : Int} (hB : 0 ≤ B) (hm : x % 16777216 ≤ B) : -1 ≤ rvO (bdS f B a x) ∧ rvO (bdS f B a x) ≤ B := by
  unfold bdS
  split
  · show -1 ≤ ((sl f a (x % 16777216).toNat).length : Int) ∧ ((sl f a (x % 16777216).toNat).length : Int) ≤ B
    rw [sl_len]
    omega
  · cases hu : unS f a (x % 16777216) B with
    | none =>
      show (-1 : Int) ≤ -1 ∧ (-1 : Int) ≤ B
      omega
    | some o =>
      have := unS_len hu
      show -1 ≤ (o.length : Int) ∧ (o.length : Int) ≤ B
      omega
theorem bc_mul {B n f i : Int} (hB : 4096 ≤ B) (hn : 0 ≤ n) (h0 : 0 ≤ i) (h1 : i < bcN B n f) : 0 ≤ i * B ∧ i * B ≤ n := by
  have h2 : i ≤ n / B := by
    unfold bcN at h1
    split at h1 <;> omega
  have h3 : i * B ≤ n / B * B := Int.mul_le_mul_of_nonneg_right h2 (by omega)
  have h4 : n / B * B ≤ n := Int.ediv_mul_le n (by omega)
  have h5 : 0 ≤ i * B := Int.mul_nonneg h0 (by omega)
  omega
/-- what is known of a file's inode -/
theorem fl_ok {g : Int → Int} {N B ids F n j : Int} {pl h : Int → Int} (hB : 4096 ≤ B) (hv : inV g N B ids F n pl h) (h1 : 1 ≤ j) (h2 : j ≤ n) (k : kdT (le g (pl j) 2) = 2) : flP g N B F (fSz g (pl j)) (fFr g (pl j)) (fOf g (pl j)) (pl j + fxT (le g (pl j) 2)) ∧ ((le g (pl j) 2 = 2 ∧ fxT (le g (pl j) 2) = 32) ∨ (le g (pl j) 2 = 9 ∧ fxT (le g (pl j) 2) = 56)) ∧ (0 ≤ pl j ∧ pl j + fxT (le g (pl j) 2) ≤ N) := by
  obtain ⟨a, b, c, e⟩ := hv.1 j h1 h2
  rcases iE_r (g := g) (N := N) (ids := ids) (F := F) hB a with z | z
  · omega
  · have eb : bodE g N B F (pl j) = if kdT (le g (pl j) 2) = 1 then dirE g N (pl j) else if kdT (le g (pl j) 2) = 2 then filE g N B F (pl j) else if kdT (le g (pl j) 2) = 3 then lnkE g N (pl j) else othE g (pl j) := rfl
    rw [if_neg (by omega), if_pos k] at eb
    have ne : filE g N B F (pl j) ≠ -1 := by omega
    have hT : le g (pl j) 2 = 2 ∨ le g (pl j) 2 = 9 := by
      unfold kdT at k
      split at k <;> omega
    refine ⟨?_, ?_, a, z.2.2.1.2.2.1⟩
    · unfold filE at ne
      split at ne
      · unfold flE at ne
        by_cases c2 : flP g N B F (fSz g (pl j)) (fFr g (pl j)) (fOf g (pl j)) (pl j + fxT (le g (pl j) 2))
        · exact c2
        · rw [cif_neg c2] at ne
          exact absurd rfl ne
      · exact absurd rfl ne
    · rcases hT with c | c
      · exact Or.inl ⟨c, by rw [c]; rfl⟩
      · exact Or.inr ⟨c, by rw [c]; rfl⟩
theorem bk_r {B : Int} {g : Int → Int} {p : Int} (hB : 4096 ≤ B) (hz : 0 ≤ fSz g p) : 0 ≤ bkC B g p := by
  have := div_r (fSz g p) hB hz
  unfold bkC bcN
  split <;> omega
theorem bb_r {B : Int} {g : Int → Int} {p i : Int} (hB : 4096 ≤ B) (hz : 0 ≤ fSz g p) (h0 : 0 ≤ i) (h1 : i < bkC B g p) : 0 ≤ bbN B g p i ∧ bbN B g p i ≤ B := by
  have := bc_mul hB hz h0 h1
  unfold bbN
  omega
theorem sbF_r {B : Int} {g : Int → Int} {p : Int} (hB : 4096 ≤ B ∧ B ≤ 65536) (hz : 0 ≤ fSz g p) : ∀ k : Nat, k ≤ bkC B g p → 0 ≤ sbF B g p k ∧ sbF B g p k ≤ 65536 * k
  | 0, _ => by
    show (0 : Int) ≤ 0 ∧ (0 : Int) ≤ _
    omega
  | k + 1, h => by
    have ih := sbF_r hB hz k (by omega)
    have b := bb_r hB.1 hz (show (0 : Int) ≤ k by omega) (by omega)
    have e : sbF B g p (k + 1) = if blN g p k = 0 then sbF B g p k else sbF B g p k + bbN B g p k := rfl
    rw [e]
    split <;> omega
theorem saD_r {g : Int → Int} {N B ids F n : Int} {pl h : Int → Int} (hB : 4096 ≤ B ∧ B ≤ 65536) (hF : 0 ≤ F ∧ F ≤ 4096) (hN : N ≤ 65536) (hv : inV g N B ids F n pl h) : ∀ m : Nat, m ≤ n → 0 ≤ saD B F g pl (fun c => kdT (le g (pl c) 2)) m ∧ saD B F g pl (fun c => kdT (le g (pl c) 2)) m ≤ 268435456 + 1073741824 * m
  | 0, _ => by
    have h1 : 0 ≤ F * B := Int.mul_nonneg hF.1 (by omega)
    have h2 : F * B ≤ 4096 * B := Int.mul_le_mul_of_nonneg_right hF.2 (by omega)
    show 0 ≤ F * B ∧ F * B ≤ _
    omega
  | m + 1, hm => by
    have ih := saD_r hB hF hN hv m (by omega)
    have e : saD B F g pl (fun c => kdT (le g (pl c) 2)) (m + 1) = if kdT (le g (pl (m + 1)) 2) = 2 then saD B F g pl (fun c => kdT (le g (pl c) 2)) m + sbF B g (pl (m + 1)) (bkC B g (pl (m + 1))).toNat else saD B F g pl (fun c => kdT (le g (pl c) 2)) m := rfl
    rw [e]
    split
    · rename_i c
      obtain ⟨f1, f2, f3⟩ := fl_ok hB.1 hv (show 1 ≤ (m : Int) + 1 by omega) (by omega) c
      have b0 := bk_r (B := B) hB.1 f1.1.1
      have f4 := f1.2.2.1
      have eb : bkC B g (pl (m + 1)) = bcN B (fSz g (pl (m + 1))) (fFr g (pl (m + 1))) := rfl
      have s := sbF_r hB f1.1.1 (bkC B g (pl (m + 1))).toNat (by omega)
      omega
    · omega
