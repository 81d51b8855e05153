/-! FREEZING: ids, both; numbers, the reference -/
theorem idx_first {v : Int} : ∀ (l : List Int) (i : Nat), l[i]? = some v → (∀ j : Nat, j < i → l[j]? ≠ some v) → l.idxOf v = i
  | [], i, h, _ => by cases h
  | a :: l, 0, h, _ => by
    have e : some a = some v := h
    injection e with e
    rw [List.idxOf_cons, e]
    simp
  | a :: l, i + 1, h, hj => by
    have ne : a ≠ v := fun q => hj 0 (by omega) (by show some a = some v; rw [q])
    have ih := idx_first l i h (fun j q => hj (j + 1) (by omega))
    have b : (a == v) = false := beq_eq_false_iff_ne.2 ne
    rw [List.idxOf_cons, b, ih]
    rfl
def idB : List Int → List Int
  | [] => []
  | v :: r => leL v 4 ++ idB r
theorem idB_len : ∀ l : List Int, (idB l).length = 4 * l.length
  | [] => rfl
  | v :: r => by
    show (leL v 4 ++ idB r).length = 4 * (r.length + 1)
    rw [List.length_append, leL_len, idB_len r]
    omega
theorem idB_app (v : Int) : ∀ l : List Int, idB (l ++ [v]) = idB l ++ leL v 4
  | [] => by
    show leL v 4 ++ [] = [] ++ leL v 4
    rw [List.append_nil]
    rfl
  | x :: r => by
    show leL x 4 ++ idB (r ++ [v]) = leL x 4 ++ idB r ++ leL v 4
    rw [idB_app v r, List.append_assoc]
theorem idB_at {f : Int → Int} {v : Int} : ∀ (l : List Int) (p : Int) (i : Nat), sl f p (idB l).length = idB l → l[i]? = some v → sl f (p + 4 * i) 4 = leL v 4
  | [], p, i, _, h => by cases h
  | x :: r, p, i, hs, h => by
    have hs2 : sl f p (leL x 4 ++ idB r).length = leL x 4 ++ idB r := hs
    rw [List.length_append, leL_len, sl_add] at hs2
    obtain ⟨s1, s2⟩ := List.append_inj hs2 (by rw [sl_len, leL_len])
    cases i with
    | zero =>
      have e : some x = some v := h
      injection e with e
      rw [← e, show p + 4 * ((0 : Nat) : Int) = p by omega]
      exact s1
    | succ i =>
      have ih := idB_at r (p + 4) i (by
        rw [show p + 4 = p + ((4 : Nat) : Int) from rfl]
        exact s2) h
      rw [show p + 4 * ((i + 1 : Nat) : Int) = p + 4 + 4 * (i : Int) by omega]
      exact ih
theorem le_leL {f : Int → Int} {p v : Int} (h : sl f p 4 = leL v 4) : le f p 4 = v % 4294967296 := by
  have h2 : [f p % 256, f (p + 1) % 256, f (p + 1 + 1) % 256, f (p + 1 + 1 + 1) % 256] = [v % 256, v / 256 % 256, v / 256 / 256 % 256, v / 256 / 256 / 256 % 256] := h
  injection h2 with e0 h2
  injection h2 with e1 h2
  injection h2 with e2 h2
  injection h2 with e3 h2
  rw [le_4, show p + 2 = p + 1 + 1 by omega, show p + 3 = p + 1 + 1 + 1 by omega, e0, e1, e2, e3]
  omega
/-- where an id is, or -1 -/
def fiS (l : List Int) (v : Int) : Int := if v ∈ l then (l.idxOf v : Int) else -1
section IDS
variable {d nx zl : Nat} {K : Option TV → FH → Prop} {sh : Nat → Option Shp} {M : FM} {l : List Int} {v : Int}
theorem idPlace_Y (hr : rzO M 86 87 16000 (some (idB l))) (hl : ∀ x ∈ l, -2147483648 ≤ x ∧ x ≤ 2147483647) (hv : -2147483648 ≤ v ∧ v ≤ 2147483647) (k : K (some (ti (fiS l v))) (sh, M, nx, zl)) : fm_Y (d + 2) 60 [.ref 18, .int (Int32.ofInt v)] (sh, M, nx, zl) K := by
  obtain ⟨⟨r0, r1⟩, r2, r3, r4'⟩ := hr
  have il := idB_len l
  have rS : rowS sh 86 87 16000 := ⟨⟨rfl, rfl⟩, by decide, by decide, by decide, by decide⟩
  refine m60 [fx 18, ti v] ?_
  have L : ∀ (N i : Nat), l.length - i < N → i ≤ l.length → (∀ j : Nat, j < i → l[j]? ≠ some v) → fm_X (d + 1) kd60 2 [some (fx 18), some (ti v), some (ti i)] [] (sh, M, nx, zl) K := by
    intro N
    induction N with
    | zero =>
      intro i hN
      omega
    | succ N ih =>
      intro i hN hi hj
      refine s60_2 (d + 1) K _ _ _ ?_
      refine ⟨by omega, ?_⟩
      refine ⟨by omega, fun w => ?_, fun w => ?_⟩
      · have e : i = l.length := by omega
        have nm : v ∉ l := fun q => by
          obtain ⟨j, hj2⟩ := List.getElem?_of_mem q
          have := (List.getElem?_eq_some_iff.1 hj2).1
          exact hj j (by omega) hj2
        have ek : fiS l v = -1 := if_neg nm
        rw [ek] at k
        exact k
      · have hil : i < l.length := by omega
        obtain ⟨x, hx⟩ : ∃ x, l[i]? = some x := ⟨_, List.getElem?_eq_getElem hil⟩
        have xr := hl x (List.mem_of_getElem? hx)
        have e4 := le_leL (idB_at l 0 i r3 hx)
        refine four_Y rS (by omega) (by omega) (by omega) ?_
        have er : r4 (M 87) (M 86 1) (4 * (i : Int)) = x := by
          unfold r4
          rw [if_pos (by omega), show (4 : Int) * (i : Int) = 0 + 4 * (i : Int) by omega, e4]
          unfold s32
          omega
        rw [er]
        refine ⟨by omega, fun w2 => ?_, fun w2 => ?_⟩
        · refine ih (i + 1) (by omega) (by omega) (fun j hj2 => ?_)
          by_cases e : j = i
          · rw [e, hx]
            intro q
            injection q with q
            exact w2 q
          · exact hj j (by omega)
        · have e : x = v := by omega
          have ek : fiS l v = (i : Int) := by
            unfold fiS
            rw [if_pos (by rw [← e]; exact List.mem_of_getElem? hx), idx_first l i (by rw [← e]; exact hx) hj]
          rw [ek] at k
          exact k
  exact L (l.length + 1) 0 (by omega) (by omega) (fun j hj => by omega)
theorem addId_Y (hr : rzO M 86 87 16000 (some (idB l))) (hl : ∀ x ∈ l, -2147483648 ≤ x ∧ x ≤ 2147483647) (hv : -2147483648 ≤ v ∧ v ≤ 2147483647) (hn : l.length < 4000) (k : ∀ M2 : FM, (∀ y : Nat, y ≠ 86 → y ≠ 87 → M2 y = M y) → rzO M2 86 87 16000 (some (idB (nuX l v))) → K none (sh, M2, nx, zl)) : fm_Y (d + 3) 59 [.ref 18, .int (Int32.ofInt v)] (sh, M, nx, zl) K := by
  have il := idB_len l
  refine m59 [fx 18, ti v] ?_
  refine idPlace_Y hr hl hv ?_
  by_cases c : v ∈ l
  · have e : fiS l v = (l.idxOf v : Int) := if_pos c
    rw [e]
    have il2 : l.idxOf v < l.length := List.idxOf_lt_length_iff.2 c
    refine ⟨by omega, fun w => ?_, fun w => by omega⟩
    exact k M (fun _ _ _ => rfl) (by
      have e2 : nuX l v = l := if_pos c
      rw [e2]
      exact hr)
  · have e : fiS l v = -1 := if_neg c
    rw [e]
    refine ⟨by omega, fun w => by omega, fun w => ?_⟩
    refine putFour_O (a := 86) (b := 87) (n := 16000) ⟨⟨rfl, rfl⟩, by decide, by decide, by decide, by decide⟩ hv hr (fun M2 f2 w2 => k M2 f2 ?_)
    have e2 : nuX l v = l ++ [v] := if_neg c
    rw [e2, idB_app]
    rw [apO_fit (by rw [il, leL_len]; omega)] at w2
    exact w2
/-- the reference's ids -/
def rdI (M : FM) (l : List Int) : Prop := M 168 66 = l.length ∧ ∀ (i : Nat) (x : Int), l[i]? = some x → M 215 i = x
theorem idOf_Y (hr : rdI M l) (hl : ∀ x ∈ l, -2147483648 ≤ x ∧ x ≤ 2147483647) (hv : -2147483648 ≤ v ∧ v ≤ 2147483647) (hn : l.length < 4000 ∨ v ∈ l ∧ l.length ≤ 4000) (k : ∀ M2 : FM, (∀ y : Nat, y ≠ 168 → y ≠ 215 → M2 y = M y) → (∀ i : Int, i ≠ 66 → M2 168 i = M 168 i) → rdI M2 (nuX l v) → K (some (ti ((nuX l v).idxOf v : Nat))) (sh, M2, nx, zl)) : fm_Y (d + 1) 265 [.ref 168, .int (Int32.ofInt v)] (sh, M, nx, zl) K := by
  obtain ⟨r1, r2⟩ := hr
  refine m265 [fx 168, ti v] ?_
  have L : ∀ (N i : Nat), l.length - i < N → i ≤ l.length → (∀ j : Nat, j < i → l[j]? ≠ some v) → fm_X d kd265 2 [some (fx 168), some (ti v), some (ti i)] [] (sh, M, nx, zl) K := by
    intro N
    induction N with
    | zero =>
      intro i hN
      omega
    | succ N ih =>
      intro i hN hi hj
      refine s265_2 d K _ _ _ ?_
      refine ⟨by omega, fun w => ?_, fun w => ?_⟩
      · have e : i = l.length := by omega
        have nm : v ∉ l := fun q => by
          obtain ⟨j, hj2⟩ := List.getElem?_of_mem q
          have := (List.getElem?_eq_some_iff.1 hj2).1
          exact hj j (by omega) hj2
        have ex : nuX l v = l ++ [v] := if_neg nm
        refine ⟨by omega, fun w2 => by omega, fun _ => ?_⟩
        have hn2 : l.length < 4000 := by
          rcases hn with z | z
          · exact z
          · exact absurd z.1 nm
        refine ⟨by omega, ?_⟩
        obtain ⟨Q1, g1⟩ : ∃ Q1 : FM, Q1 = pq M 215 (M 168 66) v := ⟨_, rfl⟩
        have q1o : ∀ c : Nat, c ≠ 215 → Q1 c = M c := fun c hc => by rw [g1, pq_o _ _ _ hc]
        obtain ⟨Q2, g2⟩ : ∃ Q2 : FM, Q2 = pq Q1 168 66 (Q1 168 66 + 1) := ⟨_, rfl⟩
        have q2a : Q2 168 66 = (l.length : Int) + 1 := by rw [g2, pq_at, q1o 168 (by omega), r1]
        have q215 : Q2 215 = Q1 215 := by rw [g2, pq_o _ _ _ (by omega)]
        have F : K (some (ti ((nuX l v).idxOf v : Nat))) (sh, Q2, nx, zl) := by
          refine k Q2 (fun y y1 y2 => by rw [g2, pq_o _ _ _ y1, q1o y y2]) (fun j hj2 => by rw [g2, pq_ne _ _ _ _ hj2, q1o 168 (by omega)]) ⟨?_, fun j x hx => ?_⟩
          · rw [q2a, ex, List.length_append]
            rfl
          · rw [ex, apG] at hx
            rw [q215]
            by_cases cj : j < l.length
            · rw [if_pos cj] at hx
              rw [g1, pq_ne _ _ _ _ (by omega)]
              exact r2 j x hx
            · rw [if_neg cj] at hx
              by_cases cj2 : j = l.length
              · rw [if_pos cj2] at hx
                injection hx with hx
                rw [cj2, g1, ← r1, pq_at]
                exact hx
              · rw [if_neg cj2] at hx
                cases hx
        have ei : (nuX l v).idxOf v = i := by
          rw [ex]
          refine idx_first _ i ?_ (fun j hj2 => ?_)
          · rw [apG, if_neg (by omega), if_pos e]
          · rw [apG, if_pos (by omega)]
            exact hj j hj2
        rw [ei] at F
        rw [g2, g1] at F
        exact F
      · have hil : i < l.length := by omega
        have hn4 : l.length ≤ 4000 := by
          rcases hn with z | z
          · omega
          · exact z.2
        obtain ⟨x, hx⟩ : ∃ x, l[i]? = some x := ⟨_, List.getElem?_eq_getElem hil⟩
        have xr := hl x (List.mem_of_getElem? hx)
        have ex := r2 i x hx
        refine ⟨by omega, ?_⟩
        refine ⟨by omega, fun w2 => ?_, fun w2 => ?_⟩
        · have e : x = v := by omega
          have vm : v ∈ l := by
            rw [← e]
            exact List.mem_of_getElem? hx
          have en : nuX l v = l := if_pos vm
          have ei : l.idxOf v = i := idx_first l i (by rw [← e]; exact hx) hj
          refine ⟨by omega, fun w3 => ?_, fun w3 => by omega⟩
          have F := k M (fun _ _ _ => rfl) (fun _ _ => rfl) (by rw [en]; exact ⟨r1, r2⟩)
          rw [en, ei] at F
          exact F
        · refine ih (i + 1) (by omega) (by omega) (fun j hj2 => ?_)
          by_cases e : j = i
          · rw [e, hx]
            intro q
            injection q with q
            omega
          · exact hj j (by omega)
  exact L (l.length + 1) 0 (by omega) (by omega) (fun j hj => by omega)
end IDS
/-- ids of the first k nodes of a row -/
def idK (M : FM) (L : List Int) : Nat → List Int
  | 0 => []
  | k + 1 => match L[k]? with
    | none => idK M L k
    | some x => nuX (nuX (idK M L k) (M 173 x)) (M 174 x)
theorem idK_s {M : FM} {L : List Int} {k : Nat} {x : Int} (h : L[k]? = some x) : idK M L (k + 1) = nuX (nuX (idK M L k) (M 173 x)) (M 174 x) := by
  show (match L[k]? with
    | none => idK M L k
    | some x => nuX (nuX (idK M L k) (M 173 x)) (M 174 x)) = _
  rw [h]
def idL (M : FM) : List Int := idK M (nuL M) (nuL M).length
theorem nuX_len (l : List Int) (v : Int) : l.length ≤ (nuX l v).length ∧ (nuX l v).length ≤ l.length + 1 := by
  unfold nuX
  split
  · omega
  · rw [List.length_append]
    show l.length ≤ l.length + 1 ∧ l.length + 1 ≤ l.length + 1
    omega
theorem nuX_mem {l : List Int} {v x : Int} : x ∈ nuX l v ↔ x ∈ l ∨ x = v := by
  unfold nuX
  split
  · rename_i h
    refine ⟨Or.inl, fun q => ?_⟩
    rcases q with q | q
    · exact q
    · rw [q]
      exact h
  · rw [List.mem_append, List.mem_singleton]
theorem idK_len (M : FM) (L : List Int) : ∀ k : Nat, (idK M L k).length ≤ 2 * k
  | 0 => by
    show (0 : Nat) ≤ 2 * 0
    omega
  | k + 1 => by
    have ih := idK_len M L k
    unfold idK
    split
    · omega
    · rename_i x _
      have a := nuX_len (idK M L k) (M 173 x)
      have b := nuX_len (nuX (idK M L k) (M 173 x)) (M 174 x)
      omega
theorem idK_rng {M : FM} (hW : twR M) {L : List Int} (hL : nuP M L) : ∀ k : Nat, ∀ v ∈ idK M L k, -2147483648 ≤ v ∧ v ≤ 2147483647
  | 0, v, h => by cases h
  | k + 1, v, h => by
    unfold idK at h
    split at h
    · exact idK_rng hW hL k v h
    · rename_i x hx
      have xl := (hL.2 x (List.mem_of_getElem? hx)).1
      have w := hW.1.2 x xl.1 xl.2
      rw [nuX_mem, nuX_mem] at h
      rcases h with (h | h) | h
      · exact idK_rng hW hL k v h
      · rw [h]
        exact w.2.2.2.1
      · rw [h]
        exact w.2.2.2.2.1
theorem idK_mem {M : FM} {L : List Int} : ∀ (k j : Nat) (x : Int), j < k → L[j]? = some x → M 173 x ∈ idK M L k ∧ M 174 x ∈ idK M L k
  | 0, j, x, h, _ => by omega
  | k + 1, j, x, h, hx => by
    unfold idK
    by_cases e : j = k
    · rw [← e, hx]
      exact ⟨nuX_mem.2 (Or.inl (nuX_mem.2 (Or.inr rfl))), nuX_mem.2 (Or.inr rfl)⟩
    · have ih := idK_mem (M := M) k j x (by omega) hx
      split
      · exact ih
      · exact ⟨nuX_mem.2 (Or.inl (nuX_mem.2 (Or.inl ih.1))), nuX_mem.2 (Or.inl (nuX_mem.2 (Or.inl ih.2)))⟩
