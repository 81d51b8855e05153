/-! MOUNTING: what is computed hangs on the image's bytes alone -/
def agr (f g : Int → Int) (s : Int) : Prop := ∀ i : Int, 0 ≤ i → i < s → f i % 256 = g i % 256
section AGREE
variable {f g : Int → Int} {s E : Int}
theorem bt_cg (h : agr f g s) {p : Int} (h0 : 0 ≤ p) (h1 : p < 8 * s) : bt f p = bt g p := by
  unfold bt
  exact byte_mod _ _ (h (p / 8) (by omega) (by omega)) _ (by omega)
theorem bv_cg (h : agr f g s) {p : Int} (h0 : 0 ≤ p) : ∀ n : Nat, p + n ≤ 8 * s → bv f p n = bv g p n
  | 0, _ => rfl
  | n + 1, h1 => by
    show bv f p n + bt f (p + n) * 2 ^ n = bv g p n + bt g (p + n) * 2 ^ n
    rw [bv_cg h h0 n (by omega), bt_cg h (by omega) (by omega)]
theorem syG_cg (h : agr f g s) (hE : E ≤ 8 * s) {ls : Int → Int} {n : Nat} : ∀ (k l : Nat) (v fi p : Int), 0 ≤ p → syG f E ls n k l v fi p = syG g E ls n k l v fi p
  | 0, _, _, _, _, _ => rfl
  | k + 1, l, v, fi, p, h0 => by
    show (if p < E then (if 2 * v + bt f p - fi < cnt ls n (l + 1 : Nat) then some (nth ls (l + 1 : Nat) (2 * v + bt f p - fi) n, p + 1) else syG f E ls n k (l + 1) (2 * v + bt f p) (2 * (fi + cnt ls n (l + 1 : Nat))) (p + 1)) else none) = (if p < E then (if 2 * v + bt g p - fi < cnt ls n (l + 1 : Nat) then some (nth ls (l + 1 : Nat) (2 * v + bt g p - fi) n, p + 1) else syG g E ls n k (l + 1) (2 * v + bt g p) (2 * (fi + cnt ls n (l + 1 : Nat))) (p + 1)) else none)
    by_cases c : p < E
    · rw [if_pos c, if_pos c, bt_cg h h0 (by omega), syG_cg h hE k _ _ _ _ (by omega)]
    · rw [if_neg c, if_neg c]
theorem sy_cg (h : agr f g s) (hE : E ≤ 8 * s) {ls : Int → Int} {n : Nat} {p : Int} (h0 : 0 ≤ p) : sy f E ls n p = sy g E ls n p := syG_cg h hE 15 0 0 0 p h0
theorem smL_cg (h : agr f g s) (hE : E ≤ 8 * s) {lb : Int → Int} {nb : Nat} {W mo t p : Int} {o : List Int} (h0 : 0 ≤ p) : smL f E lb nb W mo t p o = smL g E lb nb W mo t p o := by
  unfold smL
  by_cases c1 : 285 < t
  · rw [if_pos c1, if_pos c1]
  · rw [if_neg c1, if_neg c1]
    by_cases c2 : E < p + lnM t
    · rw [if_pos c2, if_pos c2]
    · rw [if_neg c2, if_neg c2, sy_cg h hE (show 0 ≤ p + (lnM t : Int) by omega), bv_cg h h0 _ (by omega)]
      cases hq : sy g E lb nb (p + lnM t) with
      | none => rfl
      | some q =>
        obtain ⟨u, p3⟩ := q
        have r := sy_rng hq
        dsimp only
        by_cases c3 : 29 < u
        · rw [if_pos c3, if_pos c3]
        · rw [if_neg c3, if_neg c3]
          by_cases c4 : E < p3 + dsM u
          · rw [if_pos c4, if_pos c4]
          · rw [if_neg c4, if_neg c4, bv_cg h (by omega) _ (by omega)]
theorem smG_cg (h : agr f g s) (hE : E ≤ 8 * s) {la lb : Int → Int} {na nb : Nat} {W mo : Int} : ∀ (k : Nat) (p : Int) (o : List Int), 0 ≤ p → smG f E la na lb nb W mo k p o = smG g E la na lb nb W mo k p o
  | 0, _, _, _ => rfl
  | k + 1, p, o, h0 => by
    show (match sy f E la na p with
      | none => none
      | some (t, p1) => if t = 256 then some (p1, o) else if t < 256 then (if (o.length : Int) < mo then smG f E la na lb nb W mo k p1 (o ++ [t]) else none) else match smL f E lb nb W mo t p1 o with
        | none => none
        | some (p4, o4) => smG f E la na lb nb W mo k p4 o4) = (match sy g E la na p with
      | none => none
      | some (t, p1) => if t = 256 then some (p1, o) else if t < 256 then (if (o.length : Int) < mo then smG g E la na lb nb W mo k p1 (o ++ [t]) else none) else match smL g E lb nb W mo t p1 o with
        | none => none
        | some (p4, o4) => smG g E la na lb nb W mo k p4 o4)
    rw [sy_cg h hE h0]
    cases hq : sy g E la na p with
    | none => rfl
    | some q =>
      obtain ⟨t, p1⟩ := q
      have r := sy_rng hq
      dsimp only
      rw [smL_cg h hE (show 0 ≤ p1 by omega), smG_cg h hE k p1 _ (by omega)]
      by_cases c1 : t = 256
      · rw [if_pos c1, if_pos c1]
      · rw [if_neg c1, if_neg c1]
        by_cases c2 : t < 256
        · rw [if_pos c2, if_pos c2]
        · rw [if_neg c2, if_neg c2]
          cases hl : smL g E lb nb W mo t p1 o with
          | none => rfl
          | some q4 =>
            obtain ⟨p4, o4⟩ := q4
            have ad := smL_adv (by omega) hl
            dsimp only
            rw [smG_cg h hE k p4 _ (by omega)]
theorem stS_cg (h : agr f g s) (hE : E ≤ 8 * s) {mo p : Int} {o : List Int} (h0 : 0 ≤ p) : stS f E mo p o = stS g E mo p o := by
  unfold stS
  by_cases c : (p + 7) / 8 * 8 + 32 ≤ E
  · rw [bv_cg h (show 0 ≤ (p + 7) / 8 * 8 by omega) 16 (by omega), bv_cg h (show 0 ≤ (p + 7) / 8 * 8 + 16 by omega) 16 (by omega)]
    have b := bv_rng g ((p + 7) / 8 * 8) 16
    by_cases c2 : (p + 7) / 8 * 8 + 32 ≤ E ∧ bv g ((p + 7) / 8 * 8) 16 + bv g ((p + 7) / 8 * 8 + 16) 16 = 65535 ∧ (p + 7) / 8 * 8 + 32 + 8 * bv g ((p + 7) / 8 * 8) 16 ≤ E ∧ o.length + bv g ((p + 7) / 8 * 8) 16 ≤ mo
    · rw [if_pos c2, if_pos c2]
      have e : sl f ((p + 7) / 8 + 4) (bv g ((p + 7) / 8 * 8) 16).toNat = sl g ((p + 7) / 8 + 4) (bv g ((p + 7) / 8 * 8) 16).toNat := sl_congr _ _ _ (fun i hi => h _ (by omega) (by omega))
      rw [e]
    · rw [if_neg c2, if_neg c2]
  · rw [if_neg (fun z => c z.1), if_neg (fun z => c z.1)]
theorem tlP_cg (h : agr f g s) (hE : E ≤ 8 * s) {t p i : Int} {r : Int → Int} (h0 : 0 ≤ p) : tlP f E t p i r = tlP g E t p i r := by
  unfold tlP
  by_cases c1 : t < 16
  · rw [if_pos c1, if_pos c1]
  · rw [if_neg c1, if_neg c1]
    by_cases c2 : t = 16
    · rw [if_pos c2, if_pos c2]
      by_cases c3 : i = 0
      · rw [if_pos c3, if_pos c3]
      · rw [if_neg c3, if_neg c3]
        by_cases c4 : p + 2 ≤ E
        · rw [if_pos c4, if_pos c4, bv_cg h h0 2 (by omega)]
        · rw [if_neg c4, if_neg c4]
    · rw [if_neg c2, if_neg c2]
      by_cases c3 : t = 17
      · rw [if_pos c3, if_pos c3]
        by_cases c4 : p + 3 ≤ E
        · rw [if_pos c4, if_pos c4, bv_cg h h0 3 (by omega)]
        · rw [if_neg c4, if_neg c4]
      · rw [if_neg c3, if_neg c3]
        by_cases c4 : p + 7 ≤ E
        · rw [if_pos c4, if_pos c4, bv_cg h h0 7 (by omega)]
        · rw [if_neg c4, if_neg c4]
theorem tlG_cg (h : agr f g s) (hE : E ≤ 8 * s) {tl : Int → Int} {all : Int} : ∀ (k : Nat) (p i : Int) (r : Int → Int), 0 ≤ p → tlG f E tl all k p i r = tlG g E tl all k p i r
  | 0, _, _, _, _ => rfl
  | k + 1, p, i, r, h0 => by
    show (if all ≤ i then some (p, r) else match sy f E tl 19 p with
      | none => none
      | some (t, p1) => match tlP f E t p1 i r with
        | none => none
        | some (v, n, p2) => if i + n ≤ all then tlG f E tl all k p2 (i + n) (fillU r i n v) else none) = (if all ≤ i then some (p, r) else match sy g E tl 19 p with
      | none => none
      | some (t, p1) => match tlP g E t p1 i r with
        | none => none
        | some (v, n, p2) => if i + n ≤ all then tlG g E tl all k p2 (i + n) (fillU r i n v) else none)
    by_cases c1 : all ≤ i
    · rw [if_pos c1, if_pos c1]
    · rw [if_neg c1, if_neg c1, sy_cg h hE h0]
      cases hq : sy g E tl 19 p with
      | none => rfl
      | some q =>
        obtain ⟨t, p1⟩ := q
        have rr := sy_rng hq
        dsimp only
        rw [tlP_cg h hE (show 0 ≤ p1 by omega)]
        cases ht : tlP g E t p1 i r with
        | none => rfl
        | some q2 =>
          obtain ⟨v, n, p2⟩ := q2
          have ta := tlP_adv ht
          dsimp only
          rw [tlG_cg h hE k p2 _ _ (by omega)]
theorem tlU_cg (h : agr f g s) {p c : Int} (h0 : 0 ≤ p) (h1 : p + 3 * c ≤ 8 * s) (g0 : Int → Int) : ∀ n : Nat, tlU f p c g0 n = tlU g p c g0 n
  | 0 => rfl
  | n + 1 => by
    show ur (tlU f p c g0 n) (tel n) (if (n : Int) < c then bv f (p + 3 * n) 3 else 0) = ur (tlU g p c g0 n) (tel n) (if (n : Int) < c then bv g (p + 3 * n) 3 else 0)
    rw [tlU_cg h h0 h1 g0 n]
    by_cases q : (n : Int) < c
    · rw [if_pos q, if_pos q, bv_cg h (by omega) 3 (by omega)]
    · rw [if_neg q, if_neg q]
theorem dyS_cg (h : agr f g s) (hE : E ≤ 8 * s) {W mo p : Int} {G : Nat} {o : List Int} (h0 : 0 ≤ p) : dyS f E W mo G p o = dyS g E W mo G p o := by
  by_cases c14 : p + 14 ≤ E
  · have eH : teH f p = teH g p := by
      unfold teH
      rw [bv_cg h h0 5 (by omega)]
    have eD : teD f p = teD g p := by
      unfold teD
      rw [bv_cg h (by omega) 5 (by omega)]
    have eC : teC f p = teC g p := by
      unfold teC
      rw [bv_cg h (by omega) 4 (by omega)]
    have rC : 0 ≤ teC g p := by
      unfold teC
      have := (bv_rng g (p + 10) 4).1
      omega
    by_cases c2 : p + 14 + 3 * teC g p ≤ E
    · have eT : tlS f (p + 14) (teC g p) = tlS g (p + 14) (teC g p) := tlU_cg h (by omega) (by omega) _ 19
      have eK : teK f E p ↔ teK g E p := by
        unfold teK
        rw [eC, eH, eD, eT]
      by_cases c3 : teK g E p
      · unfold dyS
        rw [cif_pos (eK.2 c3), cif_pos c3, eC, eH, eD, eT, tlG_cg h hE G _ _ _ (by omega)]
        cases ht : tlG g E (tlS g (p + 14) (teC g p)) (teH g p + teD g p) G (p + 14 + 3 * teC g p) 0 (fun _ => 0) with
        | none => rfl
        | some q =>
          obtain ⟨p2, r⟩ := q
          have ta := tlG_adv _ _ _ _ ht
          dsimp only
          rw [smG_cg h hE G p2 o (by omega)]
      · unfold dyS
        rw [cif_neg (fun z => c3 (eK.1 z)), cif_neg c3]
    · unfold dyS
      rw [cif_neg (fun z => c2 (by rw [← eC]; exact z.1)), cif_neg (fun z => c2 z.1)]
  · have N : ∀ q : Int → Int, ¬ teK q E p := by
      intro q z
      have z1 := z.1
      unfold teC at z1
      have := (bv_rng q (p + 10) 4).1
      omega
    unfold dyS
    rw [cif_neg (N f), cif_neg (N g)]
theorem bkS_cg (h : agr f g s) (hE : E ≤ 8 * s) {W mo p : Int} {G : Nat} {o : List Int} (h0 : 0 ≤ p) (h2 : p + 2 ≤ E) : bkS f E W mo G p o = bkS g E W mo G p o := by
  unfold bkS
  rw [bv_cg h h0 2 (by omega), stS_cg h hE (show 0 ≤ p + 2 by omega), smG_cg h hE G _ _ (show 0 ≤ p + 2 by omega), dyS_cg h hE (show 0 ≤ p + 2 by omega)]
theorem blG_cg (h : agr f g s) (hE : E ≤ 8 * s) {W mo : Int} {G : Nat} : ∀ (k : Nat) (p : Int) (o : List Int), 0 ≤ p → blG f E W mo G k p o = blG g E W mo G k p o
  | 0, _, _, _ => rfl
  | k + 1, p, o, h0 => by
    show (if p + 3 ≤ E then (match bkS f E W mo G (p + 1) o with
      | none => none
      | some (p2, o2) => if bv f p 1 = 1 then some (p2, o2) else blG f E W mo G k p2 o2) else none) = (if p + 3 ≤ E then (match bkS g E W mo G (p + 1) o with
      | none => none
      | some (p2, o2) => if bv g p 1 = 1 then some (p2, o2) else blG g E W mo G k p2 o2) else none)
    by_cases c : p + 3 ≤ E
    · rw [if_pos c, if_pos c, bkS_cg h hE (by omega) (by omega), bv_cg h h0 1 (by omega)]
      cases hb : bkS g E W mo G (p + 1) o with
      | none => rfl
      | some q =>
        obtain ⟨p2, o2⟩ := q
        have ad := bkS_adv hb
        dsimp only
        rw [blG_cg h hE k p2 o2 (by omega)]
    · rw [if_neg c, if_neg c]
theorem blG_end {W mo : Int} {G : Nat} {p2 : Int} {o2 : List Int} : ∀ (k : Nat) (p : Int) (o : List Int), 0 ≤ p → blG f E W mo G k p o = some (p2, o2) → 0 ≤ p2 ∧ p2 ≤ E
  | 0, _, _, _, h => by cases h
  | k + 1, p, o, h0, h => by
    have h1 : (if p + 3 ≤ E then (match bkS f E W mo G (p + 1) o with
      | none => none
      | some (p2, o2) => if bv f p 1 = 1 then some (p2, o2) else blG f E W mo G k p2 o2) else none) = some (p2, o2) := h
    by_cases c : p + 3 ≤ E
    · rw [if_pos c] at h1
      cases hb : bkS f E W mo G (p + 1) o with
      | none =>
        rw [hb] at h1
        cases h1
      | some q =>
        obtain ⟨p3, o3⟩ := q
        have ad := bkS_adv hb
        rw [hb] at h1
        have h3 : (if bv f p 1 = 1 then some (p3, o3) else blG f E W mo G k p3 o3) = some (p2, o2) := h1
        by_cases c2 : bv f p 1 = 1
        · rw [if_pos c2] at h3
          injection h3 with h3
          injection h3 with h4 h5
          omega
        · rw [if_neg c2] at h3
          exact blG_end k p3 o3 (by omega) h3
    · rw [if_neg c] at h1
      cases h1
theorem unS_cg (h : agr f g s) {a n mo : Int} (ha : 0 ≤ a) (hs : a + n ≤ s) : unS f a n mo = unS g a n mo := by
  by_cases c0 : 2 ≤ n
  · have e1 := h a ha (by omega)
    have e2 := h (a + 1) (by omega) (by omega)
    unfold unS
    rw [e1, e2]
    by_cases c1 : 2 ≤ n ∧ (256 * (g a % 256) + g (a + 1) % 256) % 31 = 0 ∧ g a % 256 % 16 = 8 ∧ g a % 256 / 16 ≤ 7 ∧ g (a + 1) % 256 / 32 % 2 = 0
    · rw [if_pos c1, if_pos c1, blG_cg h (show 8 * (a + n) ≤ 8 * s by omega) _ _ _ (by omega)]
      cases hb : blG g (8 * (a + n)) (256 * 2 ^ (g a % 256 / 16).toNat) mo ((8 * (a + n)).toNat + 1) ((8 * (a + n)).toNat + 1) (8 * (a + 2)) [] with
      | none => rfl
      | some q =>
        obtain ⟨p, o⟩ := q
        have be := blG_end _ _ _ (by omega) hb
        dsimp only
        by_cases c2 : (p + 7) / 8 * 8 = 8 * (a + n) - 32
        · have et : tld f ((p + 7) / 8) = tld g ((p + 7) / 8) := by
            unfold tld
            rw [h ((p + 7) / 8) (by omega) (by omega), h ((p + 7) / 8 + 1) (by omega) (by omega), h ((p + 7) / 8 + 2) (by omega) (by omega), h ((p + 7) / 8 + 3) (by omega) (by omega)]
          rw [et]
        · rw [if_neg (fun z => c2 z.1), if_neg (fun z => c2 z.1)]
    · rw [if_neg c1, if_neg c1]
  · unfold unS
    rw [if_neg (fun z => c0 z.1), if_neg (fun z => c0 z.1)]
theorem le_cg (h : agr f g s) {p : Int} (h0 : 0 ≤ p) (n : Nat) (h1 : p + n ≤ s) : le f p n = le g p n := le_congr n p p (fun i hi => h _ (by omega) (by omega))
theorem pE_cg (h : agr f g s) {p m : Int} (h0 : 0 ≤ p) (h1 : m ≤ s) : pE f p m = pE g p m := by
  unfold pE
  by_cases c : p + 2 ≤ m
  · rw [le_cg h h0 2 (by omega)]
  · rw [if_neg (fun z => c z.1), if_neg (fun z => c z.1)]
theorem pcG_cg (h : agr f g s) {m : Int} (h1 : m ≤ s) : ∀ (k : Nat) (p : Int), pcG f m k p ↔ pcG g m k p
  | 0, _ => Iff.rfl
  | k + 1, p => by
    show (p = m ∨ (0 ≤ p ∧ p < m ∧ pcG f m k (pE f p m))) ↔ (p = m ∨ (0 ≤ p ∧ p < m ∧ pcG g m k (pE g p m)))
    by_cases c : 0 ≤ p
    · rw [pE_cg h c h1, pcG_cg h h1 k]
    · exact ⟨fun z => z.elim Or.inl (fun y => absurd y.1 c), fun z => z.elim Or.inl (fun y => absurd y.1 c)⟩
theorem tbG_cg (h : agr f g s) {t : Int} (h0 : 0 ≤ t) : ∀ (k : Nat) (j p : Int), 0 ≤ j → t + 8 * (j + k) ≤ s → 0 ≤ p → (tbG f t k j p ↔ tbG g t k j p)
  | 0, _, _, _, _, _ => Iff.rfl
  | k + 1, j, p, j0, h1, hp => by
    show (s64 (le f (t + 8 * j) 8) = p ∧ 0 ≤ pE f p t ∧ tbG f t k (j + 1) (pE f p t)) ↔ (s64 (le g (t + 8 * j) 8) = p ∧ 0 ≤ pE g p t ∧ tbG g t k (j + 1) (pE g p t))
    rw [le_cg h (by omega) 8 (by omega), pE_cg h hp (by omega)]
    constructor
    · intro z
      exact ⟨z.1, z.2.1, (tbG_cg h h0 k (j + 1) _ (by omega) (by omega) z.2.1).1 z.2.2⟩
    · intro z
      exact ⟨z.1, z.2.1, (tbG_cg h h0 k (j + 1) _ (by omega) (by omega) z.2.1).2 z.2.2⟩
end AGREE
