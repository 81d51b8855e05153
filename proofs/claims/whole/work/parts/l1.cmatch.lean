/-! PACKING: the best match; the class -/
def hsV (w t : Int) : Int := t * (-1640531535) % 4294967296 / 32768 % w
/-- the class's chains: the last places with a hash, and the place before each; k places are known -/
def chC (M : FM) (f : Int → Int) (a w k : Int) : Prop := (∀ v : Int, 0 ≤ v → v < w → lsP (fun t => hsV w (pkT f (a + t))) k v (M 25 v - 1)) ∧ ∀ t : Int, 0 ≤ t → t < k → lsP (fun t => hsV w (pkT f (a + t))) t (hsV w (pkT f (a + t))) (M 26 t - 1)
def w2P (w : Int) : Prop := ∃ k : Nat, k ≤ 15 ∧ w = 2 ^ k
theorem w2_r {w : Int} (h : w2P w) : 1 ≤ w ∧ w ≤ 32768 := by
  obtain ⟨k, hk, e⟩ := h
  have : k = 0 ∨ k = 1 ∨ k = 2 ∨ k = 3 ∨ k = 4 ∨ k = 5 ∨ k = 6 ∨ k = 7 ∨ k = 8 ∨ k = 9 ∨ k = 10 ∨ k = 11 ∨ k = 12 ∨ k = 13 ∨ k = 14 ∨ k = 15 := by omega
  rcases this with q | q | q | q | q | q | q | q | q | q | q | q | q | q | q | q <;> (rw [e, q]; decide)
theorem hsV_r {w t : Int} (h : w2P w) : 0 ≤ hsV w t ∧ hsV w t < w := by
  have := w2_r h
  unfold hsV
  exact ⟨Int.emod_nonneg _ (by omega), Int.emod_lt_of_pos _ (by omega)⟩
section CMATCH
variable {d nx zl : Nat} {K : Option TV → FH → Prop} {sh : Nat → Option Shp} {M : FM} {c nc : Nat}
theorem hash_Y {x w : Int} (hs : shp sh c = some (.inl (.byte, nc))) (hn : nc ≤ 2147483647) (hx : 0 ≤ x ∧ x + 3 ≤ nc) (hw : w2P w) (hm : M 22 4 = w - 1) (k : K (some (ti (hsV w (pkT (M c) x)))) (sh, M, nx, zl)) : fm_Y (d + 1) 75 [.ref 22, .ref c, .int (Int32.ofInt x)] (sh, M, nx, zl) K := by
  obtain ⟨kk, hk, ew⟩ := hw
  refine m75 [fx 22, gr c, ti x] ?_
  refine ⟨nc, hs, ⟨hn, by omega, by omega⟩, ?_⟩
  refine ⟨nc, hs, ⟨hn, by omega, by omega⟩, ?_⟩
  refine ⟨_, i32_or2 (k := 16) (by omega) (x := M c (x + 1) % 256 * 256) (y := M c x % 256) (p := 65536) (by decide) rfl (by omega) (by omega), ?_⟩
  refine ⟨nc, hs, ⟨hn, by omega, by omega⟩, ?_⟩
  have e1 : M c (x + 1) % 256 * 256 + M c x % 256 * 65536 = (M c x % 256 * 256 + M c (x + 1) % 256) * 256 := by omega
  rw [e1]
  refine ⟨_, i32_or2 (k := 8) (by omega) (x := M c (x + 2) % 256) (y := M c x % 256 * 256 + M c (x + 1) % 256) (p := 256) (by decide) rfl (by omega) (by omega), ?_⟩
  have e2 : M c (x + 2) % 256 + (M c x % 256 * 256 + M c (x + 1) % 256) * 256 = pkT (M c) x := by
    unfold pkT
    omega
  rw [e2]
  refine ⟨_, i32_mask (k := kk) (by omega) _ (by rw [hm, ew]) ew, ?_⟩
  exact k
theorem sameBytes_Y {x y most : Int} (hs : shp sh c = some (.inl (.byte, nc))) (hn : nc ≤ 2147483647) (hx : 0 ≤ x ∧ x + most ≤ nc) (hy : 0 ≤ y ∧ y + most ≤ nc) (hm : 0 ≤ most ∧ most ≤ 258) (k : K (some (ti (pkN (M c) x y most))) (sh, M, nx, zl)) : fm_Y (d + 1) 76 [.ref c, .int (Int32.ofInt x), .int (Int32.ofInt y), .int (Int32.ofInt most)] (sh, M, nx, zl) K := by
  refine m76 [gr c, ti x, ti y, ti most] ?_
  have L : ∀ (g : Nat) (n : Int), (g : Int) = most - n → 0 ≤ n → pkN (M c) x y most = pkG (M c) x y g n → fm_X d kd76 3 [some (gr c), some (ti x), some (ti y), some (ti most), some (ti n)] [] (sh, M, nx, zl) K := by
    intro g
    induction g with
    | zero =>
      intro n h1 h2 h3
      have e : pkG (M c) x y 0 n = n := rfl
      rw [h3, e] at k
      refine s76_3 d K _ _ _ ?_
      exact ⟨by omega, fun _ => k, fun q => by omega⟩
    | succ g ih =>
      intro n h1 h2 h3
      have e : pkG (M c) x y (g + 1) n = if M c (x + n) % 256 = M c (y + n) % 256 then pkG (M c) x y g (n + 1) else n := rfl
      rw [e] at h3
      refine s76_3 d K _ _ _ ?_
      refine ⟨by omega, fun q => by omega, fun _ => ?_⟩
      refine ⟨nc, hs, ⟨hn, by omega, by omega⟩, ?_⟩
      refine ⟨nc, hs, ⟨hn, by omega, by omega⟩, ?_⟩
      refine ⟨by omega, fun w => ?_, fun w => ?_⟩
      · rw [if_neg (by omega)] at h3
        rw [h3] at k
        exact k
      · rw [if_pos (by omega)] at h3
        exact ih (n + 1) (by omega) (by omega) h3
  exact L most.toNat 0 (by omega) (by omega) rfl
/-- what a search leaves: the chains are grown to p -/
def bmF (M M2 : FM) : Prop := (∀ x : Nat, x ≠ 22 → x ≠ 25 → x ≠ 26 → M2 x = M x) ∧ ∀ i : Int, i ≠ 3 → M2 22 i = M 22 i
theorem bestMatch_Y {a p e w kn : Int} {f : Int → Int} (hs : shp sh c = some (.inl (.byte, nc))) (hn : nc ≤ 131072) (hc : c ≠ 22 ∧ c ≠ 25 ∧ c ≠ 26) (hf : M c = f) (ha : 0 ≤ a ∧ a + e ≤ nc) (hp : 0 ≤ p ∧ p + 3 ≤ e ∧ e ≤ 65536) (hw : w2P w) (hm : M 22 4 = w - 1) (hk : M 22 3 = kn) (hkn : 0 ≤ kn ∧ kn ≤ p) (hch : chC M f a w kn)
    (k : ∀ M2 : FM, bmF M M2 → M2 22 3 = p → chC M2 f a w p → K (some (tj ((bmS f a e p).2 + (bmS f a e p).1 * 4294967296))) (sh, M2, nx, zl)) : fm_Y (d + 2) 74 [.ref 22, .ref c, .int (Int32.ofInt a), .int (Int32.ofInt p), .int (Int32.ofInt e)] (sh, M, nx, zl) K := by
  have wr := w2_r hw
  have eS : bmS f a e p = bmG f a (min 258 (e - p)) p p.toNat 0 0 0 := if_pos hp.2.1
  obtain ⟨mo, gmo⟩ : ∃ mo : Int, mo = min 258 (e - p) := ⟨_, rfl⟩
  rw [← gmo] at eS
  obtain ⟨R, gR⟩ : ∃ R : Int × Int, R = bmS f a e p := ⟨_, rfl⟩
  rw [← gR] at k eS
  have Rr := bm_r (f := f) (a := a) (most := mo) (p := p) (by omega) p.toNat 0 0 0 (Or.inl ⟨rfl, rfl⟩) (by omega)
  rw [← eS] at Rr
  refine m74 [fx 22, gr c, ti a, ti p, ti e] ?_
  -- the search
  have L : ∀ (G : Nat) (q b dd s i : Int) (M2 : FM) (y11 : Option TV), (q + 1).toNat < G → (-1 ≤ q ∧ q < p) → (0 ≤ s ∧ s ≤ 16) → (0 ≤ i ∧ i ≤ p - 1 - q) → (0 ≤ b ∧ b ≤ mo) → (0 ≤ dd ∧ dd ≤ 32768) → (∀ x : Nat, x ≠ 22 → x ≠ 25 → x ≠ 26 → M2 x = M x) → (∀ x : Int, x ≠ 3 → M2 22 x = M 22 x) → M2 22 3 = p → chC M2 f a w p → (0 ≤ q → hsV w (pkT f (a + q)) = hsV w (pkT f (a + p))) → R = bmG f a mo p (q + 1).toNat b dd s → fm_X (d + 1) kd74 104 [some (fx 22), some (gr c), some (ti a), some (ti p), some (ti e), some (ti mo), some (ti b), some (ti dd), some (ti s), some (ti q), some (ti i), y11] [] (sh, M2, nx, zl) K := by
    intro G
    induction G with
    | zero => intro q b dd s i M2 y11 h; omega
    | succ G ih =>
      intro q b dd s i M2 y11 q1 q2 q3 q4 q5 q6 F2 G2 k2 h2 hq hR
      have fc : M2 c = f := (F2 c hc.1 hc.2.1 hc.2.2).trans hf
      have FIN : R = (b, dd) → b74_203 (d + 1) (fW (d + 1) kd74 K) K [some (fx 22), some (gr c), some (ti a), some (ti p), some (ti e), some (ti mo), some (ti b), some (ti dd), some (ti s), some (ti q), some (ti i), y11] [] (sh, M2, nx, zl) := by
        intro eR
        refine ⟨by omega, ?_⟩
        refine ⟨by omega, ?_⟩
        refine ⟨by omega, ?_⟩
        refine ⟨_, i64_or2 (k := 32) (by omega) (x := dd) (y := b) (p := 4294967296) (by decide) rfl (by omega) (by omega), ?_⟩
        have T := k M2 ⟨F2, G2⟩ k2 h2
        rw [eR] at T
        exact T
      refine s74_104 (d + 1) K _ _ _ ?_
      refine ⟨by omega, fun v => FIN ?_, fun v => ?_⟩
      · rw [hR]
        exact bm_stop _ _ _ _ (by omega)
      refine ⟨by omega, fun v1 => FIN ?_, fun v1 => ?_⟩
      · rw [hR, show (q + 1).toNat = 0 by omega]
        rfl
      refine ⟨by omega, fun v2 => FIN ?_, fun v2 => ?_⟩
      · rw [hR]
        exact bm_stop _ _ _ _ (by omega)
      refine ⟨by omega, fun v3 => FIN ?_, fun v3 => ?_⟩
      · rw [hR]
        exact bm_stop _ _ _ _ (by omega)
      refine ⟨by omega, fun v4 => FIN ?_, fun v4 => ?_⟩
      · have eb : b = mo := by omega
        rw [hR, eb]
        exact bm_full (by omega) _ _ _
      have eq1 : (q + 1).toNat = q.toNat + 1 := by omega
      have eqq : ((q.toNat : Nat) : Int) = q := by omega
      rw [eq1, bm_one _ (by omega), eqq] at hR
      refine sameBytes_Y hs (by omega) (by omega) (by omega) (by omega) ?_
      rw [fc]
      have lr := pkN_r (f := f) (x := a + q) (y := a + p) (most := mo) (by omega)
      obtain ⟨n, gn⟩ : ∃ n : Int, n = pkN f (a + q) (a + p) mo := ⟨_, rfl⟩
      rw [← gn] at hR lr ⊢
      -- to the place before
      have NX : ∀ (b2 d2 s2 : Int) (y : Option TV), (0 ≤ b2 ∧ b2 ≤ mo) → (0 ≤ d2 ∧ d2 ≤ 32768) → (0 ≤ s2 ∧ s2 ≤ 16) → R = bmG f a mo p q.toNat b2 d2 s2 → b74_186 (d + 1) (fW (d + 1) kd74 K) K [some (fx 22), some (gr c), some (ti a), some (ti p), some (ti e), some (ti mo), some (ti b2), some (ti d2), some (ti s2), some (ti q), some (ti i), y] [] (sh, M2, nx, zl) := by
        intro b2 d2 s2 y hb2 hd2 hs2 hR2
        refine ⟨by omega, ?_⟩
        have lp := h2.2 q (by omega) (by omega)
        have lpr := lsP_r lp
        refine ih (M2 26 q - 1) b2 d2 s2 (i + 1) M2 _ (by omega) (by omega) hs2 (by omega) hb2 hd2 F2 G2 k2 h2 (fun z => ?_) ?_
        · rcases lp with y | y
          · omega
          · exact y.2.1.trans (hq v1)
        rw [hR2]
        refine bm_skip _ _ (by omega) (fun t t0 t1 => ?_)
        have g := lsP_gap lp (t := t) (by omega) (by omega) (by omega)
        by_cases c3 : pkN f (a + t) (a + p) mo < 3
        · exact c3
        · have e3 := pkN_thr (f := f) (x := a + t) (y := a + p) (most := mo) (by omega)
          refine absurd ?_ g
          show hsV w (pkT f (a + t)) = hsV w (pkT f (a + q))
          rw [e3, hq v1]
      have B163 : ∀ s2 : Int, (s2 = (if 3 ≤ n then s + 1 else s)) → b74_163 (d + 1) (fW (d + 1) kd74 K) K [some (fx 22), some (gr c), some (ti a), some (ti p), some (ti e), some (ti mo), some (ti b), some (ti dd), some (ti s2), some (ti q), some (ti i), some (ti n)] [] (sh, M2, nx, zl) := by
        intro s2 hs2
        refine ⟨by omega, fun u => ?_, fun u => ?_⟩
        · rw [if_neg (by omega)] at hR hs2
          exact NX b dd s2 _ q5 q6 (by omega) (by rw [hs2]; exact hR)
        · rw [if_pos (by omega)] at hR hs2
          refine ⟨by omega, fun u2 => ?_, fun u2 => ?_⟩
          · rw [if_neg (by omega), if_neg (by omega)] at hR
            exact NX b dd s2 _ q5 q6 (by omega) (by rw [hs2]; exact hR)
          · rw [if_pos (by omega), if_pos (by omega)] at hR
            exact NX n (p - q) s2 _ (by omega) (by omega) (by omega) (by rw [hs2]; exact hR)
      refine ⟨by omega, fun u => B163 s (by rw [if_neg (by omega)]), fun u => B163 (s + 1) (by rw [if_pos (by omega)])⟩
  -- the chains grow
  have L0 : ∀ (G : Nat) (kk : Int) (M2 : FM) (y5 y6 y7 y8 y9 y10 y11 : Option TV), (p - kk).toNat < G → (0 ≤ kk ∧ kk ≤ p) → (∀ x : Nat, x ≠ 22 → x ≠ 25 → x ≠ 26 → M2 x = M x) → (∀ x : Int, x ≠ 3 → M2 22 x = M 22 x) → M2 22 3 = kk → chC M2 f a w kk → b74_0 (d + 1) (fW (d + 1) kd74 K) K [some (fx 22), some (gr c), some (ti a), some (ti p), some (ti e), y5, y6, y7, y8, y9, y10, y11] [] (sh, M2, nx, zl) := by
    intro G
    induction G with
    | zero => intro kk M2 y5 y6 y7 y8 y9 y10 y11 h; omega
    | succ G ih =>
      intro kk M2 y5 y6 y7 y8 y9 y10 y11 q1 q2 F2 G2 k2 h2
      have fc : M2 c = f := (F2 c hc.1 hc.2.1 hc.2.2).trans hf
      have m4 : M2 22 4 = w - 1 := (G2 4 (by omega)).trans hm
      refine ⟨by omega, fun v => ?_, fun v => ?_⟩
      · have ek : kk = p := by omega
        rw [ek] at k2 h2
        refine ⟨by omega, ?_⟩
        refine hash_Y hs (by omega) (by omega) hw m4 ?_
        rw [fc]
        have hr := hsV_r (w := w) (t := pkT f (a + p)) hw
        have lp := h2.1 (hsV w (pkT f (a + p))) hr.1 hr.2
        have lpr := lsP_r lp
        refine ⟨by omega, ?_⟩
        rw [← gmo]
        refine L _ (M2 25 (hsV w (pkT f (a + p))) - 1) 0 0 0 0 M2 _ (Nat.lt_succ_self _) (by omega) (by omega) (by omega) (by omega) (by omega) F2 G2 k2 h2 (fun z => ?_) ?_
        · rcases lp with y | y
          · omega
          · exact y.2.1
        · rw [eS]
          refine bm_skip _ _ (by omega) (fun t t0 t1 => ?_)
          have g := lsP_gap lp (t := t) (by omega) (by omega) (by omega)
          by_cases c3 : pkN f (a + t) (a + p) mo < 3
          · exact c3
          · have e3 := pkN_thr (f := f) (x := a + t) (y := a + p) (most := mo) (by omega)
            refine absurd ?_ g
            show hsV w (pkT f (a + t)) = hsV w (pkT f (a + p))
            rw [e3]
      · refine hash_Y hs (by omega) (by omega) hw m4 ?_
        rw [fc, k2]
        have hr := hsV_r (w := w) (t := pkT f (a + kk)) hw
        obtain ⟨hv, ghv⟩ : ∃ hv : Int, hv = hsV w (pkT f (a + kk)) := ⟨_, rfl⟩
        rw [← ghv] at hr ⊢
        refine ⟨by omega, ?_⟩
        refine ⟨by omega, ?_⟩
        refine ⟨by omega, ?_⟩
        obtain ⟨P1, g1⟩ : ∃ P1 : FM, P1 = pq M2 26 (M2 22 3) (M2 25 hv) := ⟨_, rfl⟩
        obtain ⟨P2, g2⟩ : ∃ P2 : FM, P2 = pq P1 25 hv (P1 22 3 + 1) := ⟨_, rfl⟩
        obtain ⟨P3, g3⟩ : ∃ P3 : FM, P3 = pq P2 22 3 (P2 22 3 + 1) := ⟨_, rfl⟩
        have a1 : P1 22 3 = kk := by rw [g1, pq_o _ _ _ (by omega)]; exact k2
        have a2 : P2 22 3 = kk := by rw [g2, pq_o _ _ _ (by omega)]; exact a1
        have TL : fm_X (d + 1) kd74 0 [some (fx 22), some (gr c), some (ti a), some (ti p), some (ti e), some (ti hv), y6, y7, y8, y9, y10, y11] [] (sh, P3, nx, zl) K := by
          have h25 : ∀ v : Int, P3 25 v = if v = hv then kk + 1 else M2 25 v := by
            intro v
            rw [g3, pq_o _ _ _ (by omega), g2]
            by_cases e2 : v = hv
            · rw [e2, pq_at, a1, if_pos rfl]
            · rw [pq_ne _ _ _ _ e2, g1, pq_o _ _ _ (by omega), if_neg e2]
          have h26 : ∀ t : Int, P3 26 t = if t = kk then M2 25 hv else M2 26 t := by
            intro t
            rw [g3, pq_o _ _ _ (by omega), g2, pq_o _ _ _ (by omega), g1, k2]
            by_cases e2 : t = kk
            · rw [e2, pq_at, if_pos rfl]
            · rw [pq_ne _ _ _ _ e2, if_neg e2]
          refine s74_0 (d + 1) K _ _ _ (ih (kk + 1) P3 _ _ _ _ _ _ _ (by omega) (by omega) (fun x x1 x2 x3 => ?_) (fun x hx => ?_) ?_ ⟨fun v' v0 v1 => ?_, fun t t0 t1 => ?_⟩)
          · rw [g3, pq_o _ _ _ x1, g2, pq_o _ _ _ x2, g1, pq_o _ _ _ x3]
            exact F2 x x1 x2 x3
          · rw [g3, pq_ne _ _ _ _ hx, g2, pq_o _ _ _ (by omega), g1, pq_o _ _ _ (by omega)]
            exact G2 x hx
          · rw [g3, pq_at, a2]
          · rw [h25 v']
            by_cases e2 : v' = hv
            · rw [if_pos e2]
              refine Or.inr ⟨by omega, ?_, fun t t2 t3 => by omega⟩
              show hsV w (pkT f (a + (kk + 1 - 1))) = v'
              rw [show kk + 1 - 1 = kk by omega, e2, ghv]
            · rw [if_neg e2]
              have lp := h2.1 v' v0 v1
              have nk : hsV w (pkT f (a + kk)) ≠ v' := fun z => e2 (by rw [ghv]; exact z.symm)
              rcases lp with y | y
              · refine Or.inl ⟨y.1, fun t t2 t3 => ?_⟩
                by_cases e3 : t = kk
                · rw [e3]
                  exact nk
                · exact y.2 t t2 (by omega)
              · refine Or.inr ⟨by omega, y.2.1, fun t t2 t3 => ?_⟩
                by_cases e3 : t = kk
                · rw [e3]
                  exact nk
                · exact y.2.2 t t2 (by omega)
          · rw [h26 t]
            by_cases e2 : t = kk
            · rw [if_pos e2, e2, ← ghv]
              exact h2.1 hv hr.1 hr.2
            · rw [if_neg e2]
              exact h2.2 t t0 (by omega)
        rw [g3, g2, g1] at TL
        exact TL
  exact L0 _ kn M _ _ _ _ _ _ _ (Nat.lt_succ_self _) hkn (fun _ _ _ _ => rfl) (fun _ _ => rfl) hk hch
end CMATCH
