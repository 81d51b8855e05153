/-! MOUNTING: one inode; what both answer, and the class's readers -/
def fxT (T : Int) : Int := if T ≤ 0 then 0 else if T ≤ 2 then 32 else if T ≤ 5 then 24 else if T ≤ 7 then 20 else if T ≤ 8 then 40 else if T ≤ 9 then 56 else if T ≤ 10 then 24 else if T ≤ 12 then 28 else 24
def kdT (T : Int) : Int := if T ≤ 7 then T else T - 7
/-- k indexes of a folder from e on: behind them, or -1 -/
def iwG (g : Int → Int) (N : Int) : Nat → Int → Int
  | 0, e => e
  | k + 1, e => if e + 12 ≤ N ∧ le g (e + 8) 4 ≤ 255 ∧ e + 13 + le g (e + 8) 4 ≤ N then iwG g N k (e + 13 + le g (e + 8) 4) else -1
def bcN (B n f : Int) : Int := n / B + (if f = 4294967295 ∧ 0 < n % B then 1 else 0)
def bkP (B x : Int) : Prop := x < 33554432 ∧ x % 16777216 ≤ B ∧ x ≠ 16777216
def flP (g : Int → Int) (N B F n f o a : Int) : Prop := (0 ≤ n ∧ n < 1099511627776) ∧ (f ≠ 4294967295 → f < F ∧ n % B ≠ 0 ∧ o + n % B ≤ B) ∧ a + 4 * bcN B n f ≤ N ∧ ∀ k : Int, 0 ≤ k → k < bcN B n f → bkP B (le g (a + 4 * k) 4)
noncomputable def flE (g : Int → Int) (N B F n f o a : Int) : Int := cif (flP g N B F n f o a) (a + 4 * bcN B n f) (-1)
def fSz (g : Int → Int) (p : Int) : Int := if le g p 2 ≤ 7 then le g (p + 28) 4 else s64 (le g (p + 24) 8)
def fFr (g : Int → Int) (p : Int) : Int := if le g p 2 ≤ 7 then le g (p + 20) 4 else le g (p + 44) 4
def fOf (g : Int → Int) (p : Int) : Int := if le g p 2 ≤ 7 then le g (p + 24) 4 else le g (p + 48) 4
def hdP (g : Int → Int) (N ids p : Int) : Prop := p + 16 ≤ N ∧ (1 ≤ le g p 2 ∧ le g p 2 ≤ 14) ∧ p + fxT (le g p 2) ≤ N ∧ le g (p + 2) 2 ≤ 4095 ∧ le g (p + 4) 2 < ids ∧ le g (p + 6) 2 < ids
/-- the end of a folder, of a link, of the others -/
noncomputable def dirE (g : Int → Int) (N p : Int) : Int := if le g p 2 ≤ 7 then (if 3 ≤ le g (p + 24) 2 then p + 32 else -1) else (if 3 ≤ le g (p + 20) 4 ∧ le g (p + 36) 4 = 4294967295 then iwG g N (le g (p + 32) 2).toNat (p + 40) else -1)
noncomputable def filE (g : Int → Int) (N B F p : Int) : Int := if le g p 2 ≤ 7 ∨ le g (p + 52) 4 = 4294967295 then flE g N B F (fSz g p) (fFr g p) (fOf g p) (p + fxT (le g p 2)) else -1
def lnkE (g : Int → Int) (N p : Int) : Int := if 1 ≤ le g (p + 20) 4 ∧ le g (p + 20) 4 ≤ 16384 then (if le g p 2 ≤ 7 then (if p + 24 + le g (p + 20) 4 ≤ N then p + 24 + le g (p + 20) 4 else -1) else (if p + 28 + le g (p + 20) 4 ≤ N ∧ le g (p + 24 + le g (p + 20) 4) 4 = 4294967295 then p + 28 + le g (p + 20) 4 else -1)) else -1
def othE (g : Int → Int) (p : Int) : Int := if le g p 2 ≤ 7 ∨ le g (p + fxT (le g p 2) - 4) 4 = 4294967295 then p + fxT (le g p 2) else -1
noncomputable def bodE (g : Int → Int) (N B F p : Int) : Int := if kdT (le g p 2) = 1 then dirE g N p else if kdT (le g p 2) = 2 then filE g N B F p else if kdT (le g p 2) = 3 then lnkE g N p else othE g p
noncomputable def iE (g : Int → Int) (N B ids F p : Int) : Int := cif (hdP g N ids p) (bodE g N B F p) (-1)
def ndC (M : FM) (g : Int → Int) (N B : Int) : Prop := (M 104 1 = N ∧ agr (M 105) g N ∧ 0 ≤ N ∧ N ≤ 65536) ∧ (M 101 3 = B ∧ 4096 ≤ B ∧ B ≤ 65536) ∧ ∀ i : Int, 0 ≤ i → i < 15 → M 2 i = fxT i
theorem fxT_r (T : Int) : 0 ≤ fxT T ∧ fxT T ≤ 56 := by
  unfold fxT
  omega
theorem ty_byte {f g : Int → Int} {N p : Int} (h : agr f g N) (h0 : 0 ≤ p) (h1 : p < N) (hT : 1 ≤ le g p 2 ∧ le g p 2 ≤ 14) : (f p + 128) % 256 - 128 = le g p 2 := by
  have := h p h0 h1
  rw [le_2] at hT ⊢
  omega
section NODE
variable {d nx zl : Nat} {K : Option TV → FH → Prop} {sh : Nat → Option Shp} {M : FM} {g : Int → Int} {N B p : Int}
theorem type_Y (hI : ndC M g N B) (hp : 0 ≤ p ∧ p + 2 ≤ N) (hT : 1 ≤ le g p 2 ∧ le g p 2 ≤ 14) (k : K (some (ti (le g p 2))) (sh, M, nx, zl)) : fm_Y (d + 1) 159 [.ref 101, .int (Int32.ofInt p)] (sh, M, nx, zl) K := by
  obtain ⟨⟨n1, n2, n3, n4⟩, -, -⟩ := hI
  refine m159 [fx 101, ti p] ?_
  refine ⟨by omega, ?_⟩
  rw [ty_byte n2 hp.1 (by omega) hT]
  exact k
theorem kind_Y (hI : ndC M g N B) (hp : 0 ≤ p ∧ p + 2 ≤ N) (hT : 1 ≤ le g p 2 ∧ le g p 2 ≤ 14) (k : K (some (ti (kdT (le g p 2)))) (sh, M, nx, zl)) : fm_Y (d + 1) 160 [.ref 101, .int (Int32.ofInt p)] (sh, M, nx, zl) K := by
  obtain ⟨⟨n1, n2, n3, n4⟩, -, -⟩ := hI
  refine m160 [fx 101, ti p] ?_
  refine ⟨by omega, ?_⟩
  rw [ty_byte n2 hp.1 (by omega) hT]
  refine ⟨by omega, fun w => ?_, fun w => ?_⟩
  · have e : kdT (le g p 2) = le g p 2 := if_pos w
    rw [e] at k
    refine ⟨by omega, ?_⟩
    rw [ty_byte n2 hp.1 (by omega) hT]
    exact k
  · have e : kdT (le g p 2) = le g p 2 - 7 := if_neg (by omega)
    rw [e] at k
    refine ⟨by omega, ?_⟩
    rw [ty_byte n2 hp.1 (by omega) hT]
    exact k
theorem isExtended_Y (hI : ndC M g N B) (hp : 0 ≤ p ∧ p + 2 ≤ N) (hT : 1 ≤ le g p 2 ∧ le g p 2 ≤ 14) (k : ∀ z : Int, (z = 1 ∧ 7 < le g p 2 ∨ z = 0 ∧ le g p 2 ≤ 7) → K (some (ti z)) (sh, M, nx, zl)) : fm_Y (d + 1) 163 [.ref 101, .int (Int32.ofInt p)] (sh, M, nx, zl) K := by
  obtain ⟨⟨n1, n2, n3, n4⟩, -, -⟩ := hI
  refine m163 [fx 101, ti p] ?_
  refine ⟨by omega, ?_⟩
  rw [ty_byte n2 hp.1 (by omega) hT]
  exact ⟨by omega, fun w => ⟨Or.inl rfl, k 0 (Or.inr ⟨rfl, w⟩)⟩, fun w => ⟨Or.inr rfl, k 1 (Or.inl ⟨rfl, by omega⟩)⟩⟩
theorem unsig_Y {H : FH} {x y : Int} (hx : -2147483648 ≤ x ∧ x ≤ 2147483647) (hy : x % 4294967296 = y) (k : K (some (tj y)) H) : fm_Y (d + 1) 164 [.int (Int32.ofInt x)] H K := by
  refine m164 [ti x] ?_
  refine ⟨by omega, ?_⟩
  show K (some (tj (x % 4294967296))) H
  rw [hy]
  exact k
theorem g4o_Y (hI : ndC M g N B) (hp : -2147483648 ≤ p ∧ p ≤ 2147483647) (k : ∀ x : Int, (-2147483648 ≤ x ∧ x ≤ 2147483647) → (0 ≤ p → p + 4 ≤ N → (0 ≤ le g p 4 ∧ le g p 4 < 4294967296) ∧ ((x = le g p 4 ∧ le g p 4 < 2147483648) ∨ (x = le g p 4 - 4294967296 ∧ 2147483648 ≤ le g p 4))) → (¬ (0 ≤ p ∧ p + 4 ≤ N) → x = 0) → K (some (ti x)) (sh, M, nx, zl)) : fm_Y (d + 1) 61 [.ref 104, .int (Int32.ofInt p)] (sh, M, nx, zl) K := by
  obtain ⟨⟨n1, n2, n3, n4⟩, -, -⟩ := hI
  refine four_Y (pr102 sh).1.2.1 hp (by omega) (by omega) ?_
  by_cases c : 0 ≤ p ∧ p + 4 ≤ M 104 1
  · have e : r4 (M 105) (M 104 1) p = s32 (le g p 4) := by
      unfold r4
      rw [if_pos c, le_cg n2 c.1 4 (by omega)]
    rw [e]
    have q1 := le_nn g 4 p
    have q2 := le_lt4 g p
    refine k _ (s32_r _) (fun _ _ => ⟨⟨q1, q2⟩, ?_⟩) (fun q => by omega)
    unfold s32
    omega
  · have e : r4 (M 105) (M 104 1) p = 0 := if_neg c
    rw [e]
    exact k 0 (by omega) (fun q1 q2 => by omega) (fun _ => rfl)
theorem g2i_Y (hI : ndC M g N B) (hp : 0 ≤ p ∧ p + 2 ≤ N) (k : 0 ≤ le g p 2 ∧ le g p 2 < 65536 → K (some (ti (le g p 2))) (sh, M, nx, zl)) : fm_Y (d + 1) 129 [.ref 104, .int (Int32.ofInt p)] (sh, M, nx, zl) K := g2_Y (pr102 sh).1.2.1 hI.1.1 hI.1.2.1 (by have := hI.1.2.2.2; omega) hp k
theorem g4i_Y (hI : ndC M g N B) (hp : 0 ≤ p ∧ p + 4 ≤ N) (k : ∀ x : Int, (0 ≤ le g p 4 ∧ le g p 4 < 4294967296) → (-2147483648 ≤ x ∧ x ≤ 2147483647) → ((x = le g p 4 ∧ le g p 4 < 2147483648) ∨ (x = le g p 4 - 4294967296 ∧ 2147483648 ≤ le g p 4)) → K (some (ti x)) (sh, M, nx, zl)) : fm_Y (d + 1) 61 [.ref 104, .int (Int32.ofInt p)] (sh, M, nx, zl) K := g4_Y (pr102 sh).1.2.1 hI.1.1 hI.1.2.1 (by have := hI.1.2.2.2; omega) hp k
theorem g8i_Y (hI : ndC M g N B) (hp : 0 ≤ p ∧ p + 8 ≤ N) (k : (-9223372036854775808 ≤ s64 (le g p 8) ∧ s64 (le g p 8) ≤ 9223372036854775807) → K (some (tj (s64 (le g p 8)))) (sh, M, nx, zl)) : fm_Y (d + 1) 130 [.ref 104, .int (Int32.ofInt p)] (sh, M, nx, zl) K := g8_Y (pr102 sh).1.2.1 hI.1.1 hI.1.2.1 (by have := hI.1.2.2.2; omega) hp k
theorem listingSize_Y (hI : ndC M g N B) (hp : 0 ≤ p ∧ p + 32 ≤ N) (hT : 1 ≤ le g p 2 ∧ le g p 2 ≤ 14) (k : K (some (tj ((if le g p 2 ≤ 7 then le g (p + 24) 2 else le g (p + 20) 4) - 3))) (sh, M, nx, zl)) : fm_Y (d + 2) 162 [.ref 101, .int (Int32.ofInt p)] (sh, M, nx, zl) K := by
  refine m162 [fx 101, ti p] ?_
  refine isExtended_Y hI (by omega) hT (fun z hz => ?_)
  refine ⟨by omega, fun w => ?_, fun w => ?_⟩
  · rw [if_pos (by omega)] at k
    refine g2i_Y hI (by omega) (fun l => ?_)
    refine ⟨by omega, ?_⟩
    exact k
  · rw [if_neg (by omega)] at k
    refine g4i_Y hI (by omega) (fun x x1 x2 x3 => ?_)
    refine unsig_Y (y := le g (p + 20) 4) x2 (by omega) ?_
    exact k
theorem indexesAt_Y (hI : ndC M g N B) (hp : 0 ≤ p ∧ p + 2 ≤ N) (hT : 1 ≤ le g p 2 ∧ le g p 2 ≤ 14) (k : K (some (ti (p + fxT (le g p 2)))) (sh, M, nx, zl)) : fm_Y (d + 2) 165 [.ref 101, .int (Int32.ofInt p)] (sh, M, nx, zl) K := by
  refine m165 [fx 101, ti p] ?_
  refine type_Y hI hp hT ?_
  refine ⟨by omega, ?_⟩
  rw [hI.2.2 _ (by omega) (by omega)]
  exact k
theorem indexCount_Y (hI : ndC M g N B) (hp : 0 ≤ p ∧ p + 2 ≤ N) (hp2 : 7 < le g p 2 → p + 40 ≤ N) (hT : 1 ≤ le g p 2 ∧ le g p 2 ≤ 14) (k : K (some (ti (if le g p 2 ≤ 7 then 0 else le g (p + 32) 2))) (sh, M, nx, zl)) : fm_Y (d + 2) 166 [.ref 101, .int (Int32.ofInt p)] (sh, M, nx, zl) K := by
  refine m166 [fx 101, ti p] ?_
  refine isExtended_Y hI hp hT (fun z hz => ?_)
  refine ⟨by omega, fun w => ?_, fun w => ?_⟩
  · rw [if_pos (by omega)] at k
    exact k
  · rw [if_neg (by omega)] at k
    have := hp2 (by omega)
    exact g2i_Y hI (by omega) (fun l => k)
theorem fileSize_Y (hI : ndC M g N B) (hp : 0 ≤ p ∧ p + 32 ≤ N) (hT : 1 ≤ le g p 2 ∧ le g p 2 ≤ 14) (k : (-9223372036854775808 ≤ fSz g p ∧ fSz g p ≤ 9223372036854775807) → K (some (tj (fSz g p))) (sh, M, nx, zl)) : fm_Y (d + 2) 168 [.ref 101, .int (Int32.ofInt p)] (sh, M, nx, zl) K := by
  have e : fSz g p = if le g p 2 ≤ 7 then le g (p + 28) 4 else s64 (le g (p + 24) 8) := rfl
  rw [e] at k
  refine m168 [fx 101, ti p] ?_
  refine isExtended_Y hI (by omega) hT (fun z hz => ?_)
  refine ⟨by omega, fun w => ?_, fun w => ?_⟩
  · rw [if_pos (by omega)] at k
    refine g4i_Y hI (by omega) (fun x x1 x2 x3 => ?_)
    refine unsig_Y (y := le g (p + 28) 4) x2 (by omega) ?_
    exact k (by omega)
  · rw [if_neg (by omega)] at k
    refine g8i_Y hI (by omega) (fun l => ?_)
    exact k l
theorem fragment_Y (hI : ndC M g N B) (hp : 0 ≤ p ∧ p + 32 ≤ N ∧ (7 < le g p 2 → p + 56 ≤ N)) (hT : 1 ≤ le g p 2 ∧ le g p 2 ≤ 14) (k : ∀ x : Int, (0 ≤ fFr g p ∧ fFr g p < 4294967296) → (-2147483648 ≤ x ∧ x ≤ 2147483647) → ((x = fFr g p ∧ fFr g p < 2147483648) ∨ (x = fFr g p - 4294967296 ∧ 2147483648 ≤ fFr g p)) → K (some (ti x)) (sh, M, nx, zl)) : fm_Y (d + 2) 169 [.ref 101, .int (Int32.ofInt p)] (sh, M, nx, zl) K := by
  have e : fFr g p = if le g p 2 ≤ 7 then le g (p + 20) 4 else le g (p + 44) 4 := rfl
  rw [e] at k
  refine m169 [fx 101, ti p] ?_
  refine isExtended_Y hI (by omega) hT (fun z hz => ?_)
  refine ⟨by omega, fun w => ?_, fun w => ?_⟩
  · rw [if_pos (by omega)] at k
    exact g4i_Y hI (by omega) k
  · rw [if_neg (by omega)] at k
    have := hp.2.2 (by omega)
    exact g4i_Y hI (by omega) k
theorem fragmentOffset_Y (hI : ndC M g N B) (hp : 0 ≤ p ∧ p + 32 ≤ N ∧ (7 < le g p 2 → p + 56 ≤ N)) (hT : 1 ≤ le g p 2 ∧ le g p 2 ≤ 14) (k : (0 ≤ fOf g p ∧ fOf g p < 4294967296) → K (some (tj (fOf g p))) (sh, M, nx, zl)) : fm_Y (d + 2) 171 [.ref 101, .int (Int32.ofInt p)] (sh, M, nx, zl) K := by
  have e : fOf g p = if le g p 2 ≤ 7 then le g (p + 24) 4 else le g (p + 48) 4 := rfl
  rw [e] at k
  refine m171 [fx 101, ti p] ?_
  refine isExtended_Y hI (by omega) hT (fun z hz => ?_)
  refine ⟨by omega, fun w => ?_, fun w => ?_⟩
  · rw [if_pos (by omega)] at k
    refine g4i_Y hI (by omega) (fun x x1 x2 x3 => ?_)
    exact unsig_Y (y := le g (p + 24) 4) x2 (by omega) (k x1)
  · rw [if_neg (by omega)] at k
    have := hp.2.2 (by omega)
    refine g4i_Y hI (by omega) (fun x x1 x2 x3 => ?_)
    exact unsig_Y (y := le g (p + 48) 4) x2 (by omega) (k x1)
theorem mod_r {B : Int} (n : Int) (h : 4096 ≤ B) : 0 ≤ n % B ∧ n % B < B := ⟨Int.emod_nonneg _ (by omega), Int.emod_lt_of_pos _ (by omega)⟩
theorem rest_Y (hI : ndC M g N B) (hp : 0 ≤ p ∧ p + 32 ≤ N) (hT : 1 ≤ le g p 2 ∧ le g p 2 ≤ 14) (hz : 0 ≤ fSz g p) (k : K (some (ti (fSz g p % B))) (sh, M, nx, zl)) : fm_Y (d + 3) 170 [.ref 101, .int (Int32.ofInt p)] (sh, M, nx, zl) K := by
  obtain ⟨b1, b2, b3⟩ := hI.2.1
  refine m170 [fx 101, ti p] ?_
  refine fileSize_Y hI hp hT (fun q => ?_)
  refine ⟨by omega, ?_⟩
  refine ⟨by omega, ?_⟩
  show K (some (ti (fSz g p % M 101 3))) (sh, M, nx, zl)
  rw [b1]
  exact k
theorem div_r {B : Int} (n : Int) (h : 4096 ≤ B) (h0 : 0 ≤ n) : 0 ≤ n / B ∧ n / B ≤ n := ⟨Int.ediv_nonneg h0 (by omega), Int.ediv_le_self _ h0⟩
theorem blockCount_Y (hI : ndC M g N B) (hp : 0 ≤ p ∧ p + 32 ≤ N ∧ (7 < le g p 2 → p + 56 ≤ N)) (hT : 1 ≤ le g p 2 ∧ le g p 2 ≤ 14) (hz : 0 ≤ fSz g p) (k : K (some (tj (bcN B (fSz g p) (fFr g p)))) (sh, M, nx, zl)) : fm_Y (d + 3) 172 [.ref 101, .int (Int32.ofInt p)] (sh, M, nx, zl) K := by
  obtain ⟨b1, b2, b3⟩ := hI.2.1
  have e : bcN B (fSz g p) (fFr g p) = fSz g p / B + (if fFr g p = 4294967295 ∧ 0 < fSz g p % B then 1 else 0) := rfl
  rw [e, ← b1] at k
  have mr := mod_r (fSz g p) (show 4096 ≤ M 101 3 by omega)
  refine m172 [fx 101, ti p] ?_
  refine fileSize_Y hI (by omega) hT (fun q => ?_)
  refine ⟨by omega, ?_⟩
  refine ⟨by omega, ?_⟩
  refine ⟨by omega, ?_⟩
  refine ⟨by omega, ?_⟩
  refine ⟨by omega, fun w => ?_, fun w => ?_⟩
  · rw [if_neg (fun c => by omega)] at k
    exact ⟨by omega, k⟩
  · refine fragment_Y hI hp hT (fun x x1 x2 x3 => ?_)
    refine ⟨by omega, fun w2 => ?_, fun w2 => ?_⟩
    · rw [if_neg (fun c => by omega)] at k
      exact ⟨by omega, k⟩
    · rw [if_pos (by omega)] at k
      exact ⟨by omega, k⟩
theorem blockNumber_Y {i : Int} (hI : ndC M g N B) (hp : 0 ≤ p ∧ p + 2 ≤ N) (hT : 1 ≤ le g p 2 ∧ le g p 2 ≤ 14) (hi : 0 ≤ i ∧ p + fxT (le g p 2) + 4 * i + 4 ≤ N) (k : ∀ x : Int, (0 ≤ le g (p + fxT (le g p 2) + 4 * i) 4 ∧ le g (p + fxT (le g p 2) + 4 * i) 4 < 4294967296) → (-2147483648 ≤ x ∧ x ≤ 2147483647) → ((x = le g (p + fxT (le g p 2) + 4 * i) 4 ∧ le g (p + fxT (le g p 2) + 4 * i) 4 < 2147483648) ∨ (x = le g (p + fxT (le g p 2) + 4 * i) 4 - 4294967296 ∧ 2147483648 ≤ le g (p + fxT (le g p 2) + 4 * i) 4)) → K (some (ti x)) (sh, M, nx, zl)) : fm_Y (d + 2) 173 [.ref 101, .int (Int32.ofInt p), .int (Int32.ofInt i)] (sh, M, nx, zl) K := by
  have fr := fxT_r (le g p 2)
  refine m173 [fx 101, ti p, ti i] ?_
  refine type_Y hI hp hT ?_
  refine ⟨by omega, ?_⟩
  rw [hI.2.2 _ (by omega) (by omega)]
  exact g4i_Y hI (by omega) k
theorem targetSize_Y (hI : ndC M g N B) (hp : 0 ≤ p ∧ p + 24 ≤ N) (k : (0 ≤ le g (p + 20) 4 ∧ le g (p + 20) 4 < 4294967296) → K (some (tj (le g (p + 20) 4))) (sh, M, nx, zl)) : fm_Y (d + 2) 175 [.ref 101, .int (Int32.ofInt p)] (sh, M, nx, zl) K := by
  refine m175 [fx 101, ti p] ?_
  refine g4i_Y hI (by omega) (fun x x1 x2 x3 => ?_)
  exact unsig_Y (y := le g (p + 20) 4) x2 (by omega) (k x1)
end NODE
