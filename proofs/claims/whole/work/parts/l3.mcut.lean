/-! PACKING: a part is cut; the reference -/
theorem apG {α : Type} (T : List α) (t : α) (i : Nat) : (T ++ [t])[i]? = if i < T.length then T[i]? else if i = T.length then some t else none := by
  by_cases c : i < T.length
  · rw [if_pos c, List.getElem?_append_left c]
  · rw [if_neg c]
    by_cases c2 : i = T.length
    · rw [if_pos c2, c2]
      simp
    · rw [if_neg c2]
      exact List.getElem?_eq_none (by simp only [List.length_append, List.length_cons, List.length_nil]; omega)
theorem tkV_add {lc vc lc2 vc2 : Int → Int} {T : List (Int × Int)} {t : Int × Int} (h : tkV lc vc T) (e1 : ∀ i : Int, i < T.length → lc2 i = lc i ∧ vc2 i = vc i) (e2 : lc2 T.length = t.1 ∧ vc2 T.length = t.2) : tkV lc2 vc2 (T ++ [t]) := by
  intro i u hu
  rw [apG] at hu
  by_cases c : i < T.length
  · rw [if_pos c] at hu
    obtain ⟨a1, a2⟩ := h i u hu
    obtain ⟨b1, b2⟩ := e1 i (by omega)
    exact ⟨b1.trans a1, b2.trans a2⟩
  · rw [if_neg c] at hu
    by_cases c2 : i = T.length
    · rw [if_pos c2] at hu
      injection hu with hu
      rw [c2, ← hu]
      exact e2
    · rw [if_neg c2] at hu
      cases hu
section MCUT
variable {d nx zl : Nat} {K : Option TV → FH → Prop} {sh : Nat → Option Shp} {M : FM} {c nc : Nat}
def ctF8 (M M2 : FM) : Prop := (∀ x : Nat, x ≠ 168 → x ≠ 191 → x ≠ 192 → M2 x = M x) ∧ ∀ i : Int, i ≠ 31 → M2 168 i = M 168 i
theorem cutPart_Y {a b e n : Int} {f : Int → Int} (hs : shp sh c = some (.inl (.byte, nc))) (hn : nc ≤ 131072) (hc : c ≠ 168 ∧ c ≠ 191 ∧ c ≠ 192) (hf : M c = f) (ha : 0 ≤ a ∧ a + e ≤ nc) (hb : 0 ≤ b ∧ b ≤ e ∧ e ≤ b + 4096 ∧ e ≤ n ∧ n ≤ 65536) (hch : ∀ t : Int, 0 ≤ t → t + 1 < n → lsP (fun t => pkP f (a + t)) t (pkP f (a + t)) (M 189 t))
    (k : ∀ M2 : FM, ctF8 M M2 → M2 168 31 = (tkS f a b e).length → tkV (M2 191) (M2 192) (tkS f a b e) → K none (sh, M2, nx, zl)) : fm_Y (d + 1) 276 [.ref 168, .ref c, .int (Int32.ofInt a), .int (Int32.ofInt b), .int (Int32.ofInt e)] (sh, M, nx, zl) K := by
  refine m276 [fx 168, gr c, ti a, ti b, ti e] ?_
  obtain ⟨T, gT⟩ : ∃ T : List (Int × Int), T = tkS f a b e := ⟨_, rfl⟩
  rw [← gT] at k
  have L8 : ∀ (g : Nat) (p : Int) (pre : List (Int × Int)) (M1 : FM) (y6 y7 y8 y9 y10 : Option TV), (e - p).toNat ≤ g → (b ≤ p ∧ p ≤ e) → (pre.length : Int) ≤ p - b → ctF8 M M1 → M1 168 31 = pre.length → tkV (M1 191) (M1 192) pre → T = pre ++ tkG f a e g p → fm_X d kd276 8 [some (fx 168), some (gr c), some (ti a), some (ti b), some (ti e), some (ti p), y6, y7, y8, y9, y10] [] (sh, M1, nx, zl) K := by
    intro g
    induction g with
    | zero =>
      intro p pre M1 y6 y7 y8 y9 y10 h1 h2 h3 F1 h4 h5 h6
      have e0 : tkG f a e 0 p = [] := rfl
      rw [e0, List.append_nil] at h6
      refine s276_8 d K _ _ _ ?_
      refine ⟨by omega, fun _ => k M1 F1 (by rw [h6]; exact h4) (by rw [h6]; exact h5), fun q => by omega⟩
    | succ g ih =>
      intro p pre M1 y6 y7 y8 y9 y10 h1 h2 h3 F1 h4 h5 h6
      have e0 : tkG f a e (g + 1) p = if e ≤ p then [] else if (bmS f a e p).1 = 0 then (0, f (a + p) % 256) :: tkG f a e g (p + 1) else bmS f a e p :: tkG f a e g (p + (bmS f a e p).1) := rfl
      rw [e0] at h6
      have fc : M1 c = f := (F1.1 c hc.1 hc.2.1 hc.2.2).trans hf
      have m189 : M1 189 = M 189 := F1.1 189 (by omega) (by omega) (by omega)
      refine s276_8 d K _ _ _ ?_
      refine ⟨by omega, fun v => ?_, fun v => ?_⟩
      · rw [if_pos (by omega), List.append_nil] at h6
        exact k M1 F1 (by rw [h6]; exact h4) (by rw [h6]; exact h5)
      rw [if_neg (by omega)] at h6
      have Rr := bmS_r (f := f) (a := a) (e := e) (p := p) (by omega)
      obtain ⟨R, gR⟩ : ∃ R : Int × Int, R = bmS f a e p := ⟨_, rfl⟩
      rw [← gR] at h6 Rr
      obtain ⟨mo, gmo⟩ : ∃ mo : Int, mo = min 258 (e - p) := ⟨_, rfl⟩
      -- the token is put
      have B192 : ∀ (s q : Int) (y10 : Option TV), b276_192 d (fW d kd276 K) K [some (fx 168), some (gr c), some (ti a), some (ti b), some (ti e), some (ti p), some (ti R.1), some (ti R.2), some (ti s), some (ti q), y10] [] (sh, M1, nx, zl) := by
        intro s q y10
        refine ⟨by omega, ?_⟩
        obtain ⟨P1, g1⟩ : ∃ P1 : FM, P1 = pq M1 191 (M1 168 31) R.1 := ⟨_, rfl⟩
        have p31 : P1 168 31 = pre.length := by rw [g1, pq_o _ _ _ (by omega)]; exact h4
        have pc : P1 c = f := by rw [g1, pq_o _ _ _ hc.2.1]; exact fc
        have ST : ∀ v : Int, (R.1 = 0 → v = f (a + p) % 256) → (R.1 ≠ 0 → v = R.2) → b276_231 d (fW d kd276 K) K [some (fx 168), some (gr c), some (ti a), some (ti b), some (ti e), some (ti p), some (ti R.1), some (ti R.2), some (ti s), some (ti q), y10] [ti v, ti (P1 168 31), fx 192] (sh, P1, nx, zl) := by
          intro v v0 v1
          refine ⟨by omega, ?_⟩
          obtain ⟨P3, g3⟩ : ∃ P3 : FM, P3 = pq (pq P1 192 (P1 168 31) v) 168 31 (pq P1 192 (P1 168 31) v 168 31 + 1) := ⟨_, rfl⟩
          have F3 : ctF8 M P3 := by
            refine ⟨fun x x1 x2 x3 => ?_, fun i hi => ?_⟩
            · rw [g3, pq_o _ _ _ x1, pq_o _ _ _ x3, g1, pq_o _ _ _ x2]
              exact F1.1 x x1 x2 x3
            · rw [g3, pq_ne _ _ _ _ hi, pq_o _ _ _ (by omega), g1, pq_o _ _ _ (by omega)]
              exact F1.2 i hi
          have q31 : P3 168 31 = pre.length + 1 := by rw [g3, pq_at, pq_o _ _ _ (by omega), p31]
          have V3 : tkV (P3 191) (P3 192) (pre ++ [(R.1, v)]) := by
            refine tkV_add h5 (fun i hi => ?_) ⟨?_, ?_⟩
            · rw [g3, pq_o _ _ _ (by omega), pq_o _ _ _ (by omega), pq_o _ _ _ (by omega), p31, pq_ne _ _ _ _ (by omega), g1, h4, pq_ne _ _ _ _ (by omega), pq_o _ _ _ (by omega)]
              exact ⟨rfl, rfl⟩
            · rw [g3, pq_o _ _ _ (by omega), pq_o _ _ _ (by omega), g1, h4, pq_at]
            · rw [g3, pq_o _ _ _ (by omega), p31, pq_at]
          have TL : (o_il 6 (o_if .le (o_il 5 (o_ic 1 (o_iadd (b276_259 d (fW d kd276 K) K)))) (o_il 5 (o_il 6 (o_iadd (b276_259 d (fW d kd276 K) K))))) : FC) [some (fx 168), some (gr c), some (ti a), some (ti b), some (ti e), some (ti p), some (ti R.1), some (ti R.2), some (ti s), some (ti q), y10] [] (sh, P3, nx, zl) := by
            refine ⟨by omega, fun u => ?_, fun u => ?_⟩
            · have e1 : R.1 = 0 := by omega
              rw [if_pos e1] at h6
              refine ih (p + 1) (pre ++ [(R.1, v)]) P3 _ _ _ _ _ (by omega) (by omega) (by simp only [List.length_append, List.length_cons, List.length_nil]; omega) F3 (by rw [q31]; simp only [List.length_append, List.length_cons, List.length_nil]; omega) V3 ?_
              rw [h6, e1, v0 e1, List.append_assoc]
              rfl
            · have e1 : R.1 ≠ 0 := by omega
              rw [if_neg e1] at h6
              refine ih (p + R.1) (pre ++ [(R.1, v)]) P3 _ _ _ _ _ (by omega) (by omega) (by simp only [List.length_append, List.length_cons, List.length_nil]; omega) F3 (by rw [q31]; simp only [List.length_append, List.length_cons, List.length_nil]; omega) V3 ?_
              rw [h6, v1 e1, List.append_assoc]
              rfl
          rw [g3] at TL
          exact TL
        have T1 : (o_al 0 (o_get 12 33 33 (o_al 0 (o_get 12 31 31 (o_il 6 (o_if .le (o_al 1 (o_il 2 (o_il 5 (o_iadd (o_ubld (b276_231 d (fW d kd276 K) K)))))) (o_il 7 (b276_231 d (fW d kd276 K) K))))))) : FC) [some (fx 168), some (gr c), some (ti a), some (ti b), some (ti e), some (ti p), some (ti R.1), some (ti R.2), some (ti s), some (ti q), y10] [] (sh, P1, nx, zl) := by
          refine ⟨by omega, fun u => ?_, fun u => ST R.2 (fun z => by omega) (fun _ => rfl)⟩
          refine ⟨nc, hs, ⟨by omega, by omega, by omega⟩, ?_⟩
          rw [pc]
          exact ST _ (fun _ => rfl) (fun z => by omega)
        rw [g1] at T1
        exact T1
      -- the search
      have L46 : ∀ (G : Nat) (q bb dd s : Int) (y10 : Option TV), p + 3 ≤ e → (q + 1).toNat < G → (-1 ≤ q ∧ q < p) → (0 ≤ s ∧ s ≤ 16) → (0 ≤ bb ∧ bb ≤ mo) → (0 ≤ dd ∧ dd ≤ 32768) → (0 ≤ q → pkP f (a + q) = pkP f (a + p)) → R = bmG f a mo p (q + 1).toNat bb dd s → fm_X d kd276 46 [some (fx 168), some (gr c), some (ti a), some (ti b), some (ti e), some (ti p), some (ti bb), some (ti dd), some (ti s), some (ti q), y10] [] (sh, M1, nx, zl) K := by
        intro G
        induction G with
        | zero => intro q bb dd s y10 _ h; omega
        | succ G ih2 =>
          intro q bb dd s y10 hpe q1 q2 q3 q4 q5 hq hR
          have FIN : R = (bb, dd) → b276_192 d (fW d kd276 K) K [some (fx 168), some (gr c), some (ti a), some (ti b), some (ti e), some (ti p), some (ti bb), some (ti dd), some (ti s), some (ti q), y10] [] (sh, M1, nx, zl) := by
            intro eR
            have T := B192 s q y10
            rw [eR] at T
            exact T
          refine s276_46 d K _ _ _ ?_
          refine ⟨by omega, fun v1 => FIN ?_, fun v1 => ?_⟩
          · rw [hR, show (q + 1).toNat = 0 by omega]
            rfl
          refine ⟨by omega, fun v2 => FIN ?_, fun v2 => ?_⟩
          · rw [hR]
            exact bm_stop _ _ _ _ (by omega)
          refine ⟨by omega, fun v3 => FIN ?_, fun v3 => ?_⟩
          · rw [hR]
            exact bm_stop _ _ _ _ (by omega)
          have eq1 : (q + 1).toNat = q.toNat + 1 := by omega
          have eqq : ((q.toNat : Nat) : Int) = q := by omega
          rw [eq1, bm_one _ (by omega), eqq] at hR
          have lr := pkN_r (f := f) (x := a + q) (y := a + p) (most := mo) (by omega)
          obtain ⟨hp1, hp2⟩ := pkP_eq (hq v1)
          -- the length is told
          obtain ⟨N, gN⟩ : ∃ N : Int, N = pkN f (a + q) (a + p) mo := ⟨_, rfl⟩
          rw [← gN] at hR lr
          have NX : ∀ (b2 d2 s2 : Int), (0 ≤ b2 ∧ b2 ≤ mo) → (0 ≤ d2 ∧ d2 ≤ 32768) → (0 ≤ s2 ∧ s2 ≤ 16) → R = bmG f a mo p q.toNat b2 d2 s2 → ∀ y6 : Option TV, b276_178 d (fW d kd276 K) K [some (fx 168), some (gr c), some (ti a), some (ti b), some (ti e), some (ti p), y6, some (ti d2), some (ti s2), some (ti q), some (ti N)] [ti b2] (sh, M1, nx, zl) := by
            intro b2 d2 s2 hb2 hd2 hs2 hR2 y6
            have lp := hch q (by omega) (by omega)
            have lpr := lsP_r lp
            refine ⟨by omega, ?_⟩
            rw [m189]
            refine ih2 (M 189 q) b2 d2 s2 _ hpe (by omega) (by omega) hs2 hb2 hd2 (fun z => ?_) ?_
            · rcases lp with y | y
              · omega
              · exact y.2.1.trans (hq v1)
            rw [hR2]
            refine bm_skip _ _ (by omega) (fun t t0 t1 => ?_)
            have g' := lsP_gap lp (t := t) (by omega) (by omega) (by omega)
            by_cases c3 : pkN f (a + t) (a + p) mo < 3
            · exact c3
            · have e3 := pkN_two (f := f) (x := a + t) (y := a + p) (most := mo) (by omega)
              refine absurd ?_ g'
              show pkP f (a + t) = pkP f (a + q)
              rw [e3, hq v1]
          have B116 : b276_116 d (fW d kd276 K) K [some (fx 168), some (gr c), some (ti a), some (ti b), some (ti e), some (ti p), some (ti bb), some (ti dd), some (ti s), some (ti q), some (ti N)] [] (sh, M1, nx, zl) := by
            refine ⟨by omega, fun u => ?_, fun u => ?_⟩
            · rw [if_neg (by omega)] at hR
              refine ⟨by omega, fun _ => ?_, fun z => by omega⟩
              refine ⟨by omega, fun _ => ?_, fun z => by omega⟩
              exact NX bb dd s q4 q5 q3 hR (some (ti bb))
            · rw [if_pos (by omega)] at hR
              refine ⟨by omega, fun z => by omega, fun _ => ?_⟩
              refine ⟨by omega, fun u2 => ?_, fun u2 => ?_⟩
              · rw [if_neg (by omega), if_neg (by omega)] at hR
                refine ⟨by omega, fun z => by omega, fun _ => ?_⟩
                refine ⟨by omega, fun _ => ?_, fun z => by omega⟩
                exact NX bb dd (s + 1) q4 q5 (by omega) hR (some (ti bb))
              · rw [if_pos (by omega), if_pos (by omega)] at hR
                refine ⟨by omega, fun z => by omega, fun _ => ?_⟩
                refine ⟨by omega, fun z => by omega, fun _ => ?_⟩
                exact NX N (p - q) (s + 1) (by omega) (by omega) (by omega) hR (some (ti bb))
          have L71 : ∀ (g2 : Nat) (n2 : Int), (g2 : Int) = mo - n2 → 2 ≤ n2 → N = pkG f (a + q) (a + p) g2 n2 → fm_X d kd276 71 [some (fx 168), some (gr c), some (ti a), some (ti b), some (ti e), some (ti p), some (ti bb), some (ti dd), some (ti s), some (ti q), some (ti n2)] [] (sh, M1, nx, zl) K := by
            intro g2
            induction g2 with
            | zero =>
              intro n2 z1 z2 z3
              have e1 : pkG f (a + q) (a + p) 0 n2 = n2 := rfl
              rw [e1] at z3
              rw [z3] at B116
              refine s276_71 d K _ _ _ ?_
              refine ⟨by omega, fun _ => B116, fun u => ?_⟩
              exact ⟨by omega, fun _ => B116, fun u2 => by omega⟩
            | succ g2 ih3 =>
              intro n2 z1 z2 z3
              have e1 : pkG f (a + q) (a + p) (g2 + 1) n2 = if f (a + q + n2) % 256 = f (a + p + n2) % 256 then pkG f (a + q) (a + p) g2 (n2 + 1) else n2 := rfl
              rw [e1] at z3
              refine s276_71 d K _ _ _ ?_
              refine ⟨by omega, fun u => by omega, fun _ => ?_⟩
              refine ⟨by omega, fun u => by omega, fun _ => ?_⟩
              refine ⟨nc, hs, ⟨by omega, by omega, by omega⟩, ?_⟩
              refine ⟨nc, hs, ⟨by omega, by omega, by omega⟩, ?_⟩
              rw [fc]
              refine ⟨by omega, fun u => ?_, fun u => ?_⟩
              · rw [if_neg (by omega)] at z3
                rw [z3] at B116
                exact B116
              · rw [if_pos (by omega)] at z3
                exact ih3 (n2 + 1) (by omega) (by omega) z3
          refine L71 (mo - 2).toNat 2 (by omega) (by omega) ?_
          rw [gN]
          unfold pkN
          rw [show mo.toNat = (mo - 2).toNat + 1 + 1 by omega]
          show (if f (a + q + 0) % 256 = f (a + p + 0) % 256 then (if f (a + q + (0 + 1)) % 256 = f (a + p + (0 + 1)) % 256 then pkG f (a + q) (a + p) (mo - 2).toNat (0 + 1 + 1) else 0 + 1) else 0) = _
          rw [Int.add_zero, Int.add_zero, if_pos hp1, Int.zero_add, if_pos hp2]
          rfl
      refine ⟨by omega, fun u => ?_, fun u => ?_⟩
      · have eR : R = (0, 0) := by
          rw [gR]
          exact if_neg (by omega)
        have T := B192 0 (-1) y10
        rw [eR] at T
        refine s276_46 d K _ _ _ ?_
        exact ⟨by omega, fun _ => T, fun z => by omega⟩
      · have eR : R = bmG f a mo p p.toNat 0 0 0 := by
          rw [gR, gmo]
          exact if_pos (by omega)
        have lp := hch p (by omega) (by omega)
        have lpr := lsP_r lp
        refine ⟨by omega, ?_⟩
        rw [m189]
        refine L46 _ (M 189 p) 0 0 0 _ (by omega) (Nat.lt_succ_self _) (by omega) (by omega) (by omega) (by omega) (fun z => ?_) ?_
        · rcases lp with y | y
          · omega
          · exact y.2.1
        · rw [eR]
          refine bm_skip _ _ (by omega) (fun t t0 t1 => ?_)
          have g' := lsP_gap lp (t := t) (by omega) (by omega) (by omega)
          by_cases c3 : pkN f (a + t) (a + p) mo < 3
          · exact c3
          · have e3 := pkN_two (f := f) (x := a + t) (y := a + p) (most := mo) (by omega)
            refine absurd ?_ g'
            show pkP f (a + t) = pkP f (a + p)
            rw [e3]
  obtain ⟨P, gP⟩ : ∃ P : FM, P = pq M 168 31 0 := ⟨_, rfl⟩
  have TL : (o_il 3 (o_is 5 (fW d kd276 K 8)) : FC) [some (fx 168), some (gr c), some (ti a), some (ti b), some (ti e), none, none, none, none, none, none] [] (sh, P, nx, zl) := by
    refine L8 (e - b).toNat b [] P _ _ _ _ _ (Nat.le_refl _) (by omega) (by simp only [List.length_nil]; omega) ⟨fun x x1 _ _ => by rw [gP, pq_o _ _ _ x1], fun i hi => by rw [gP, pq_ne _ _ _ _ hi]⟩ (by rw [gP, pq_at]; rfl) (fun i t h => by cases h) ?_
    rw [gT]
    rfl
  rw [gP] at TL
  exact TL
end MCUT
