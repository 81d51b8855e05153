/-! PACKING: tokens; the reference -/
def pkP (f : Int → Int) (x : Int) : Int := 256 * (f x % 256) + f (x + 1) % 256
theorem pkN_two {f : Int → Int} {x y most : Int} (h : 3 ≤ pkN f x y most) : pkP f x = pkP f y := by
  have h0 := pkN_eq (f := f) (x := x) (y := y) (most := most) (i := 0) (by omega) (by omega)
  have h1 := pkN_eq (f := f) (x := x) (y := y) (most := most) (i := 1) (by omega) (by omega)
  rw [Int.add_zero, Int.add_zero] at h0
  unfold pkP
  rw [h0, h1]
theorem pkP_eq {f : Int → Int} {x y : Int} (h : pkP f x = pkP f y) : f x % 256 = f y % 256 ∧ f (x + 1) % 256 = f (y + 1) % 256 := by
  unfold pkP at h
  omega
/-- a part's tokens -/
def tkG (f : Int → Int) (a e : Int) : Nat → Int → List (Int × Int)
  | 0, _ => []
  | g + 1, p => if e ≤ p then [] else if (bmS f a e p).1 = 0 then (0, f (a + p) % 256) :: tkG f a e g (p + 1) else bmS f a e p :: tkG f a e g (p + (bmS f a e p).1)
def tkS (f : Int → Int) (a b e : Int) : List (Int × Int) := tkG f a e (e - b).toNat b
theorem bmS_r {f : Int → Int} {a e p : Int} (hp : 0 ≤ p) : ((bmS f a e p).1 = 0 ∧ (bmS f a e p).2 = 0) ∨ ((3 ≤ (bmS f a e p).1 ∧ (bmS f a e p).1 ≤ 258 ∧ p + (bmS f a e p).1 ≤ e) ∧ 1 ≤ (bmS f a e p).2 ∧ (bmS f a e p).2 ≤ 32768 ∧ (bmS f a e p).2 ≤ p) := by
  unfold bmS
  split
  · have := bm_r (f := f) (a := a) (most := min 258 (e - p)) (p := p) (by omega) p.toNat 0 0 0 (Or.inl ⟨rfl, rfl⟩) (by omega)
    rcases this with z | z
    · exact Or.inl z
    · exact Or.inr ⟨by omega, by omega, by omega, by omega⟩
  · exact Or.inl ⟨rfl, rfl⟩
theorem tkG_len {f : Int → Int} {a e : Int} : ∀ (g : Nat) (p : Int), 0 ≤ p → p ≤ e → ((tkG f a e g p).length : Int) ≤ e - p
  | 0, p, h0, h => by
    show (((0 : Nat) : Nat) : Int) ≤ e - p
    omega
  | g + 1, p, h0, h => by
    have r := bmS_r (f := f) (a := a) (e := e) h0
    show (((if e ≤ p then [] else if (bmS f a e p).1 = 0 then (0, f (a + p) % 256) :: tkG f a e g (p + 1) else bmS f a e p :: tkG f a e g (p + (bmS f a e p).1) : List (Int × Int)).length : Nat) : Int) ≤ e - p
    split
    · show ((0 : Nat) : Int) ≤ e - p
      omega
    · split
      · have ih := tkG_len (f := f) (a := a) (e := e) g (p + 1) (by omega) (by omega)
        simp only [List.length_cons]
        omega
      · have ih := tkG_len (f := f) (a := a) (e := e) g (p + (bmS f a e p).1) (by omega) (by omega)
        simp only [List.length_cons]
        omega
/-- tokens as they lie in two rows -/
def tkV (lc vc : Int → Int) (T : List (Int × Int)) : Prop := ∀ (i : Nat) (t : Int × Int), T[i]? = some t → lc i = t.1 ∧ vc i = t.2
section MMATCH
variable {d nx zl : Nat} {K : Option TV → FH → Prop} {sh : Nat → Option Shp} {M : FM} {c nc : Nat}
theorem notePairs_Y {a n : Int} (hs : shp sh c = some (.inl (.byte, nc))) (hn : nc ≤ 131072) (hc : c ≠ 189 ∧ c ≠ 190) (ha : 0 ≤ a ∧ a + n ≤ nc) (hn2 : 0 ≤ n ∧ n ≤ 65536)
    (k : ∀ M2 : FM, (∀ x : Nat, x ≠ 189 → x ≠ 190 → M2 x = M x) → (∀ t : Int, 0 ≤ t → t + 1 < n → lsP (fun t => pkP (M c) (a + t)) t (pkP (M c) (a + t)) (M2 189 t)) → K none (sh, M2, nx, zl)) : fm_Y (d + 1) 272 [.ref 168, .ref c, .int (Int32.ofInt a), .int (Int32.ofInt n)] (sh, M, nx, zl) K := by
  refine m272 [fx 168, gr c, ti a, ti n] ?_
  have L2 : ∀ (G : Nat) (p : Int) (M1 : FM) (y5 : Option TV), (n - p).toNat < G → 0 ≤ p → (p + 1 ≤ n ∨ p = 0) → (∀ x : Nat, x ≠ 189 → x ≠ 190 → M1 x = M x) → (∀ v : Int, 0 ≤ v → v < 65536 → lsP (fun t => pkP (M c) (a + t)) p v (M1 190 v)) → (∀ t : Int, 0 ≤ t → t < p → lsP (fun t => pkP (M c) (a + t)) t (pkP (M c) (a + t)) (M1 189 t)) → fm_X d kd272 27 [some (fx 168), some (gr c), some (ti a), some (ti n), some (ti p), y5] [] (sh, M1, nx, zl) K := by
    intro G
    induction G with
    | zero => intro p M1 y5 q; omega
    | succ G ih =>
      intro p M1 y5 q1 q2 q3 F1 hv ht
      have fc : M1 c = M c := F1 c hc.1 hc.2
      refine s272_27 d K _ _ _ ?_
      refine ⟨by omega, fun w => ?_, fun w => ?_⟩
      · exact k M1 F1 (fun t t0 t1 => ht t t0 (by omega))
      refine ⟨nc, hs, ⟨by omega, by omega, by omega⟩, ?_⟩
      refine ⟨nc, hs, ⟨by omega, by omega, by omega⟩, ?_⟩
      rw [fc]
      refine ⟨_, i32_or2 (k := 8) (by omega) (x := M c (a + p + 1) % 256) (y := M c (a + p) % 256) (p := 256) (by decide) rfl (by omega) (by omega), ?_⟩
      have e2 : M c (a + p + 1) % 256 + M c (a + p) % 256 * 256 = pkP (M c) (a + p) := by
        unfold pkP
        omega
      rw [e2]
      have pr : 0 ≤ pkP (M c) (a + p) ∧ pkP (M c) (a + p) < 65536 := by
        unfold pkP
        omega
      obtain ⟨v, gv⟩ : ∃ v : Int, v = pkP (M c) (a + p) := ⟨_, rfl⟩
      rw [← gv] at pr ⊢
      refine ⟨by omega, ?_⟩
      refine ⟨by omega, ?_⟩
      refine ⟨by omega, ?_⟩
      obtain ⟨P1, g1⟩ : ∃ P1 : FM, P1 = pq (pq M1 189 p (M1 190 v)) 190 v p := ⟨_, rfl⟩
      have TL : fm_X d kd272 27 [some (fx 168), some (gr c), some (ti a), some (ti n), some (ti (p + 1)), some (ti v)] [] (sh, P1, nx, zl) K := by
        have h190 : ∀ u : Int, P1 190 u = if u = v then p else M1 190 u := by
          intro u
          rw [g1]
          by_cases e3 : u = v
          · rw [e3, pq_at, if_pos rfl]
          · rw [pq_ne _ _ _ _ e3, pq_o _ _ _ (by omega), if_neg e3]
        have h189 : ∀ t : Int, P1 189 t = if t = p then M1 190 v else M1 189 t := by
          intro t
          rw [g1, pq_o _ _ _ (by omega)]
          by_cases e3 : t = p
          · rw [e3, pq_at, if_pos rfl]
          · rw [pq_ne _ _ _ _ e3, if_neg e3]
        refine ih (p + 1) P1 _ (by omega) (by omega) (by omega) (fun x x1 x2 => by rw [g1, pq_o _ _ _ x2, pq_o _ _ _ x1]; exact F1 x x1 x2) (fun u u0 u1 => ?_) (fun t t0 t1 => ?_)
        · rw [h190 u]
          by_cases e3 : u = v
          · rw [if_pos e3]
            refine Or.inr ⟨by omega, ?_, fun t t2 t3 => by omega⟩
            show pkP (M c) (a + p) = u
            rw [e3, gv]
          · rw [if_neg e3]
            have nk : pkP (M c) (a + p) ≠ u := fun z => e3 (by rw [gv]; exact z.symm)
            rcases hv u u0 u1 with y | y
            · refine Or.inl ⟨y.1, fun t t2 t3 => ?_⟩
              by_cases e4 : t = p
              · rw [e4]
                exact nk
              · exact y.2 t t2 (by omega)
            · refine Or.inr ⟨by omega, y.2.1, fun t t2 t3 => ?_⟩
              by_cases e4 : t = p
              · rw [e4]
                exact nk
              · exact y.2.2 t t2 (by omega)
        · rw [h189 t]
          by_cases e3 : t = p
          · rw [if_pos e3, e3, ← gv]
            exact hv v pr.1 pr.2
          · rw [if_neg e3]
            exact ht t t0 (by omega)
      rw [g1] at TL
      exact TL
  have L1 : ∀ (G : Nat) (i : Int) (M1 : FM), (65536 - i).toNat < G → 0 ≤ i → i ≤ 65536 → (∀ x : Nat, x ≠ 189 → x ≠ 190 → M1 x = M x) → (∀ v : Int, 0 ≤ v → v < i → M1 190 v = -1) → fm_X d kd272 3 [some (fx 168), some (gr c), some (ti a), some (ti n), some (ti i), none] [] (sh, M1, nx, zl) K := by
    intro G
    induction G with
    | zero => intro i M1 q; omega
    | succ G ih =>
      intro i M1 q1 q2 q3 F1 hv
      refine s272_3 d K _ _ _ ?_
      refine ⟨by omega, fun w => ?_, fun w => ?_⟩
      · exact L2 _ 0 M1 none (Nat.lt_succ_self _) (by omega) (Or.inr rfl) F1 (fun v v0 v1 => Or.inl ⟨hv v v0 (by omega), fun t t0 t1 => by omega⟩) (fun t t0 t1 => by omega)
      refine ⟨by omega, ?_⟩
      obtain ⟨P, gP⟩ : ∃ P : FM, P = pq M1 190 i (-1) := ⟨_, rfl⟩
      have TL : fm_X d kd272 3 [some (fx 168), some (gr c), some (ti a), some (ti n), some (ti (i + 1)), none] [] (sh, P, nx, zl) K := by
        refine ih (i + 1) P (by omega) (by omega) (by omega) (fun x x1 x2 => by rw [gP, pq_o _ _ _ x2]; exact F1 x x1 x2) (fun v v0 v1 => ?_)
        by_cases e : v = i
        · rw [e, gP, pq_at]
        · rw [gP, pq_ne _ _ _ _ e]
          exact hv v v0 (by omega)
      rw [gP] at TL
      exact TL
  exact L1 _ 0 M (Nat.lt_succ_self _) (by omega) (by omega) (fun _ _ _ => rfl) (fun v v0 v1 => by omega)
end MMATCH
