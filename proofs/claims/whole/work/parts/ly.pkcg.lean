/-! PACKING: what is packed hangs on the bytes alone -/
section PKCG
variable {f g : Int → Int} {a b N : Int}
theorem pkG_cg (H : ∀ i : Int, 0 ≤ i → i < N → f (a + i) % 256 = g (b + i) % 256) {q p : Int} (hq : 0 ≤ q ∧ q ≤ p) : ∀ (k : Nat) (n : Int), 0 ≤ n → p + n + k ≤ N → pkG f (a + q) (a + p) k n = pkG g (b + q) (b + p) k n
  | 0, n, _, _ => rfl
  | k + 1, n, h0, h1 => by
    show (if f (a + q + n) % 256 = f (a + p + n) % 256 then pkG f (a + q) (a + p) k (n + 1) else n) = if g (b + q + n) % 256 = g (b + p + n) % 256 then pkG g (b + q) (b + p) k (n + 1) else n
    have e1 := H (q + n) (by omega) (by omega)
    have e2 := H (p + n) (by omega) (by omega)
    rw [show a + q + n = a + (q + n) by omega, show a + p + n = a + (p + n) by omega, show b + q + n = b + (q + n) by omega, show b + p + n = b + (p + n) by omega, e1, e2, pkG_cg H hq k (n + 1) (by omega) (by omega)]
theorem pkN_cg (H : ∀ i : Int, 0 ≤ i → i < N → f (a + i) % 256 = g (b + i) % 256) {q p most : Int} (hq : 0 ≤ q ∧ q ≤ p) (hm : 0 ≤ most) (h : p + most ≤ N) : pkN f (a + q) (a + p) most = pkN g (b + q) (b + p) most := pkG_cg H hq _ 0 (by omega) (by omega)
theorem bmG_cg (H : ∀ i : Int, 0 ≤ i → i < N → f (a + i) % 256 = g (b + i) % 256) {p most : Int} (hm : 0 ≤ most) (h : p + most ≤ N) : ∀ (q : Nat) (x d s : Int), q ≤ p → bmG f a most p q x d s = bmG g b most p q x d s
  | 0, _, _, _, _ => rfl
  | q + 1, x, d, s, hq => by
    have e := pkN_cg H (q := q) (p := p) (most := most) (by omega) hm h
    by_cases c : s < 16 ∧ p - (q : Int) ≤ 32768
    · rw [bm_one q c, bm_one q c, e, bmG_cg H hm h q _ _ _ (by omega), bmG_cg H hm h q _ _ _ (by omega)]
    · rw [bm_stop (q + 1) x d s (by omega), bm_stop (q + 1) x d s (by omega)]
theorem bmS_cg (H : ∀ i : Int, 0 ≤ i → i < N → f (a + i) % 256 = g (b + i) % 256) {p e : Int} (h0 : 0 ≤ p) (he : e ≤ N) : bmS f a e p = bmS g b e p := by
  unfold bmS
  by_cases c : p + 3 ≤ e
  · rw [if_pos c, if_pos c, bmG_cg H (by omega) (by omega) p.toNat 0 0 0 (by omega)]
  · rw [if_neg c, if_neg c]
theorem tkG_cg (H : ∀ i : Int, 0 ≤ i → i < N → f (a + i) % 256 = g (b + i) % 256) {e : Int} (he : e ≤ N) : ∀ (k : Nat) (p : Int), 0 ≤ p → tkG f a e k p = tkG g b e k p
  | 0, _, _ => rfl
  | k + 1, p, h0 => by
    have r := bmS_r (f := g) (a := b) (e := e) h0
    show (if e ≤ p then [] else if (bmS f a e p).1 = 0 then (0, f (a + p) % 256) :: tkG f a e k (p + 1) else bmS f a e p :: tkG f a e k (p + (bmS f a e p).1)) = if e ≤ p then [] else if (bmS g b e p).1 = 0 then (0, g (b + p) % 256) :: tkG g b e k (p + 1) else bmS g b e p :: tkG g b e k (p + (bmS g b e p).1)
    rw [bmS_cg H h0 he]
    by_cases c : e ≤ p
    · rw [if_pos c, if_pos c]
    · rw [if_neg c, if_neg c, H p h0 (by omega), tkG_cg H he k (p + 1) (by omega), tkG_cg H he k (p + (bmS g b e p).1) (by omega)]
theorem tkS_cg (H : ∀ i : Int, 0 ≤ i → i < N → f (a + i) % 256 = g (b + i) % 256) {s e : Int} (hs : 0 ≤ s) (he : e ≤ N) : tkS f a s e = tkS g b s e := tkG_cg H he _ s hs
theorem sbL_cg (H : ∀ i : Int, 0 ≤ i → i < N → f (a + i) % 256 = g (b + i) % 256) {s : Int} (hs : 0 ≤ s) : ∀ n : Nat, s + n ≤ N → sbL f (a + s) n = sbL g (b + s) n
  | 0, _ => rfl
  | n + 1, h => by
    show sbL f (a + s) n ++ nbL (f (a + s + n) % 256) 8 = sbL g (b + s) n ++ nbL (g (b + s + n) % 256) 8
    rw [sbL_cg H hs n (by omega), show a + s + (n : Int) = a + (s + n) by omega, show b + s + (n : Int) = b + (s + n) by omega, H (s + n) (by omega) (by omega)]
theorem ptS_cg (H : ∀ i : Int, 0 ≤ i → i < N → f (a + i) % 256 = g (b + i) % 256) (B : List Int) {s e last : Int} (hs : 0 ≤ s ∧ s ≤ e) (he : e ≤ N) : ptS B f a s e last = ptS B g b s e last := by
  unfold ptS
  rw [tkS_cg H hs.1 he, sbL_cg H hs.1 (e - s).toNat (by omega)]
theorem pgG_cg (H : ∀ i : Int, 0 ≤ i → i < N → f (a + i) % 256 = g (b + i) % 256) : ∀ (k : Nat) (B : List Int) (s : Int), 0 ≤ s → s ≤ N → pgG f a N k B s = pgG g b N k B s
  | 0, _, _, _, _ => rfl
  | k + 1, B, s, h0, h1 => by
    show (if s + 4096 < N then pgG f a N k (ptS B f a s (s + 4096) 0) (s + 4096) else ptS B f a s N 1) = if s + 4096 < N then pgG g b N k (ptS B g b s (s + 4096) 0) (s + 4096) else ptS B g b s N 1
    by_cases c : s + 4096 < N
    · rw [if_pos c, if_pos c, ptS_cg H B (by omega) (by omega), pgG_cg H k _ (s + 4096) (by omega) (by omega)]
    · rw [if_neg c, if_neg c, ptS_cg H B (by omega) (by omega)]
theorem pkS_cg (h0 : 0 ≤ N) (H : ∀ i : Int, 0 ≤ i → i < N → f (a + i) % 256 = g (b + i) % 256) : pkS f a N = pkS g b N := by
  unfold pkS pkB
  rw [pgG_cg H 17 _ 0 (by omega) h0, sl_congr (f := f) (g := g) N.toNat a b (fun i hi => H i (by omega) (by omega))]
end PKCG
