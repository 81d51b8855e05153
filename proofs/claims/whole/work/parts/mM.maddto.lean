/-! FREEZING: bytes behind a row; the reference -/
theorem pcL_ap {R Y : List Int} {i : Nat} (h : 8192 * i + 8192 ≤ R.length) : pcL (R ++ Y) i = pcL R i := by
  unfold pcL
  rw [List.drop_append_of_le_length (by omega), List.take_append_of_le_length (by rw [List.length_drop]; omega)]
theorem clG_ap {z : Int} {R Y : List Int} {k : Nat} : ∀ j : Nat, 8192 * (k + j) ≤ R.length → clG z (R ++ Y) k j = clG z R k j
  | 0, _ => rfl
  | j + 1, h => by
    show clG z (R ++ Y) k j ++ pcY z (pcL (R ++ Y) (k + j)) = clG z R k j ++ pcY z (pcL R (k + j))
    rw [clG_ap j (by omega), pcL_ap (by omega)]
theorem clG_len {z : Int} {R : List Int} {k : Nat} : ∀ j : Nat, (clG z R k j).length ≤ 8194 * j
  | 0 => by
    show (0 : Nat) ≤ 8194 * 0
    omega
  | j + 1 => by
    have ih := clG_len (z := z) (R := R) (k := k) j
    have y := pcY_len z (pcL R (k + j))
    have p : (pcL R (k + j)).length ≤ 8192 := by
      unfold pcL
      rw [List.length_take]
      omega
    show (clG z R k j ++ pcY z (pcL R (k + j))).length ≤ 8194 * (j + 1)
    rw [List.length_append]
    omega
/-- a row of the reference holds C: bytes, and full pieces closed -/
def mrC (M : FM) (q b st cl : Nat) (z : Int) (C : List Int) : Prop := (M q 1 = C.length ∧ C.length ≤ 65536 ∧ sl (M b) 0 C.length = C) ∧ M q 3 = (C.length / 8192 : Nat) ∧ (M q 5 = (clG z C 0 (C.length / 8192)).length ∧ sl (M cl) 0 (clG z C 0 (C.length / 8192)).length = clG z C 0 (C.length / 8192)) ∧ ∀ i : Nat, i ≤ C.length / 8192 → M st i = (clG z C 0 i).length
/-- a row of the reference, to which the bytes R were added: it holds as many as it can -/
def mrO (M : FM) (q b st cl : Nat) (z : Int) (R : List Int) : Prop := mrC M q b st cl z (R.take 65536) ∧ M q 6 = if 65536 < R.length then 1 else 0
/-- what adding leaves -/
def maF (M M2 : FM) (q : Nat) : Prop := (∀ c : Nat, c ≠ 168 → (c < 188 ∨ 203 < c) → c ≠ q → c ≠ q + 1 → c ≠ q + 2 → c ≠ q + 3 → M2 c = M c) ∧ ∀ i : Int, i ≠ 28 → i ≠ 31 → i ≠ 42 → M2 168 i = M 168 i
theorem maF_r (M : FM) (q : Nat) : maF M M q := ⟨fun _ _ _ _ _ _ _ => rfl, fun _ _ _ _ => rfl⟩
theorem maF_t {M M2 M3 : FM} {q : Nat} (h : maF M M2 q) (g : maF M2 M3 q) : maF M M3 q := ⟨fun c h1 h2 h3 h4 h5 h6 => (g.1 c h1 h2 h3 h4 h5 h6).trans (h.1 c h1 h2 h3 h4 h5 h6), fun i h1 h2 h3 => (g.2 i h1 h2 h3).trans (h.2 i h1 h2 h3)⟩
section MADDTO
variable {d nx zl : Nat} {K : Option TV → FH → Prop} {sh : Nat → Option Shp} {M : FM} {q b st cl : Nat} {op : Int}
theorem addTo_Y {v : Int} {n : Nat} {R : List Int} (hq : mrS sh q b st cl) (hop : 0 ≤ op ∧ op ≤ 15) (h69 : M 168 69 = op) (hv : -9223372036854775808 ≤ v ∧ v ≤ 9223372036854775807) (hn : n ≤ 8) (h : mrO M q b st cl (1 - op % 2) R) (k : ∀ M2 : FM, maF M M2 q → mrO M2 q b st cl (1 - op % 2) (R ++ leL v n) → K none (sh, M2, nx, zl)) : fm_Y (d + 20) 306 [.ref 168, .ref q, .long (Int64.ofInt v), .int (Int32.ofInt n)] (sh, M, nx, zl) K := by
  have hq0 := hq
  obtain ⟨⟨s1, s2, s3, s4⟩, ⟨q1, q2⟩, e1, e2, e3⟩ := hq
  refine m306 [fx 168, gr q, tj v, ti n] ?_
  have L : ∀ (N i : Nat) (M1 : FM), n - i < N → i ≤ n → maF M M1 q → mrO M1 q b st cl (1 - op % 2) (R ++ leL v i) → fm_X (d + 19) kd306 3 [some (fx 168), some (gr q), some (tj v), none, some (ti n), some (ti i)] [] (sh, M1, nx, zl) K := by
    intro N
    induction N with
    | zero =>
      intro i M1 hN
      omega
    | succ N ih =>
      intro i M1 hN hi f1 h1
      have c69 : M1 168 69 = op := by rw [f1.2 69 (by decide) (by decide) (by decide)]; exact h69
      obtain ⟨S, hS⟩ : ∃ S, S = R ++ leL v i := ⟨_, rfl⟩
      rw [← hS] at h1
      have eS : ∀ x : Int, x % 256 = v / 2 ^ (8 * i) % 256 → S ++ [x % 256] = R ++ leL v (i + 1) := fun x hx => by rw [hS, leL_back, List.append_assoc, hx]
      obtain ⟨⟨⟨a1, a2, a3⟩, a4, ⟨a5, a6⟩, a7⟩, a8⟩ := id h1
      have tl : (S.take 65536).length = min 65536 S.length := List.length_take
      refine s306_3 (d + 19) K _ _ _ ?_
      refine ⟨by omega, fun w => ?_, fun w => ?_⟩
      · have e : i = n := by omega
        rw [hS, e] at h1
        exact k M1 f1 h1
      · have NEXT : ∀ M2 : FM, maF M1 M2 q → mrO M2 q b st cl (1 - op % 2) (S ++ [v / 2 ^ (8 * i) % 256]) → b306_86 (d + 19) (fW (d + 19) kd306 K) K [some (fx 168), some (gr q), some (tj v), none, some (ti n), some (ti i)] [] (sh, M2, nx, zl) := by
          intro M2 f2 h2
          refine ih (i + 1) M2 (by omega) (by omega) (maF_t f1 f2) ?_
          rw [hS, List.append_assoc, ← leL_back] at h2
          exact h2
        have sl1 : (S ++ [v / 2 ^ (8 * i) % 256]).length = S.length + 1 := by
          rw [List.length_append]
          rfl
        have FULL : 65536 ≤ S.length → b306_32 (d + 19) (fW (d + 19) kd306 K) K [some (fx 168), some (gr q), some (tj v), none, some (ti n), some (ti i)] [ti 1, gr q] (sh, M1, nx, zl) := by
          intro hf
          refine ⟨_, ⟨by omega, s1, rfl⟩, ?_⟩
          refine ⟨Or.inr rfl, ?_⟩
          obtain ⟨P, gP⟩ : ∃ P : FM, P = pq M1 q 6 1 := ⟨_, rfl⟩
          have p6 : P q 6 = 1 := by rw [gP, pq_at]
          have po : ∀ c : Nat, c ≠ q → P c = M1 c := fun c hc => by rw [gP, pq_o _ _ _ hc]
          have pn : ∀ j : Int, j ≠ 6 → P q j = M1 q j := fun j hj => by rw [gP, pq_ne _ _ _ _ hj]
          have F := NEXT P ⟨fun c _ _ x3 _ _ _ => po c x3, fun j _ _ _ => by rw [po 168 (by omega)]⟩ ⟨by
              rw [List.take_append_of_le_length hf]
              refine ⟨⟨by rw [pn 1 (by decide)]; exact a1, a2, by rw [po b (by omega)]; exact a3⟩, by rw [pn 3 (by decide)]; exact a4, ⟨by rw [pn 5 (by decide)]; exact a5, by rw [po cl (by omega)]; exact a6⟩, fun j hj => by rw [po st (by omega)]; exact a7 j hj⟩, by rw [p6, sl1, if_pos (by omega)]⟩
          have T : (o_al 1 (o_get 14 6 6 (o_if .ne (b306_86 (d + 19) (fW (d + 19) kd306 K) K) (o_al 1 (o_get 14 0 0 (o_al 1 (o_get 14 1 1 (o_ll 2 (o_ic 8 (o_il 5 (o_imul (o_lshr (o_l2i (o_i2b (o_bast (o_al 1 (o_dup (o_get 14 1 1 (o_ic 1 (o_iadd (o_put 14 1 1 (o_al 1 (o_get 14 1 1 (o_ic 8192 (b306_77 (d + 19) (fW (d + 19) kd306 K) K)))))))))))))))))))))))) : FC) [some (fx 168), some (gr q), some (tj v), none, some (ti n), some (ti i)] [] (sh, P, nx, zl) := by
            refine ⟨_, s1, ?_⟩
            refine ⟨by omega, fun _ => F, fun w2 => by omega⟩
          rw [gP] at T
          exact T
        refine ⟨_, s1, ?_⟩
        by_cases cf : 65536 < S.length
        · rw [if_pos cf] at a8
          refine ⟨by omega, fun _ => FULL (by omega), fun w2 => by omega⟩
        · rw [if_neg cf] at a8
          refine ⟨by omega, fun w2 => by omega, fun _ => ?_⟩
          refine ⟨_, s1, ?_⟩
          refine ⟨by omega, fun w2 => ?_, fun w2 => FULL (by omega)⟩
          -- a byte more
          have sl6 : S.length < 65536 := by omega
          have tk : S.take 65536 = S := List.take_of_length_le (by omega)
          rw [tk] at a1 a2 a3 a4 a5 a6 a7
          obtain ⟨x, hx⟩ : ∃ x, x = v / 2 ^ (8 * i) % 256 := ⟨_, rfl⟩
          rw [← hx] at NEXT sl1
          have tk2 : (S ++ [x]).take 65536 = S ++ [x] := List.take_of_length_le (by omega)
          refine ⟨_, ⟨by omega, s1, rfl⟩, ?_⟩
          refine ⟨Or.inl rfl, ?_⟩
          obtain ⟨P0, g0⟩ : ∃ P0 : FM, P0 = pq M1 q 6 0 := ⟨_, rfl⟩
          have z6 : P0 q 6 = 0 := by rw [g0, pq_at]
          have z1 : P0 q 1 = S.length := by rw [g0, pq_ne _ _ _ _ (by decide), a1]
          have T : (o_al 1 (o_get 14 6 6 (o_if .ne (b306_86 (d + 19) (fW (d + 19) kd306 K) K) (o_al 1 (o_get 14 0 0 (o_al 1 (o_get 14 1 1 (o_ll 2 (o_ic 8 (o_il 5 (o_imul (o_lshr (o_l2i (o_i2b (o_bast (o_al 1 (o_dup (o_get 14 1 1 (o_ic 1 (o_iadd (o_put 14 1 1 (o_al 1 (o_get 14 1 1 (o_ic 8192 (b306_77 (d + 19) (fW (d + 19) kd306 K) K)))))))))))))))))))))))) : FC) [some (fx 168), some (gr q), some (tj v), none, some (ti n), some (ti i)] [] (sh, P0, nx, zl) := by
            refine ⟨_, s1, ?_⟩
            refine ⟨by omega, fun w3 => by omega, fun _ => ?_⟩
            refine ⟨_, s1, ?_⟩
            refine ⟨_, s1, ?_⟩
            refine ⟨⟨by omega, by omega, hv⟩, ?_⟩
            refine ⟨65536, s2, ⟨by omega, by omega, by omega, by omega⟩, ?_⟩
            obtain ⟨P1, g1⟩ : ∃ P1 : FM, P1 = pq P0 b (P0 q 1) ((v / 2 ^ ((8 : Int) * (i : Int)).toNat + 128) % 256 - 128) := ⟨_, rfl⟩
            obtain ⟨P2, g2⟩ : ∃ P2 : FM, P2 = pq P1 q 1 (P1 q 1 + 1) := ⟨_, rfl⟩
            have p21 : P2 q 1 = S.length + 1 := by
              rw [g2, pq_at, g1, pq_o _ _ _ (by omega), z1]
            have p2n : ∀ j : Int, j ≠ 1 → j ≠ 6 → P2 q j = M1 q j := fun j j1 j2 => by rw [g2, pq_ne _ _ _ _ j1, g1, pq_o _ _ _ (by omega), g0, pq_ne _ _ _ _ j2]
            have p26 : P2 q 6 = 0 := by rw [g2, pq_ne _ _ _ _ (by decide), g1, pq_o _ _ _ (by omega), z6]
            have p2o : ∀ c : Nat, c ≠ q → c ≠ b → P2 c = M1 c := fun c c1 c2 => by rw [g2, pq_o _ _ _ c1, g1, pq_o _ _ _ c2, g0, pq_o _ _ _ c1]
            have p2b : sl (P2 b) 0 (S ++ [x]).length = S ++ [x] := by
              have eb : P2 b = P1 b := by rw [g2, pq_o _ _ _ (by omega)]
              rw [sl1, sl_back, eb, g1, show (0 : Int) + (S.length : Int) = P0 q 1 by omega, pq_at]
              have e9 : sl (pq P0 b (P0 q 1) ((v / 2 ^ ((8 : Int) * (i : Int)).toNat + 128) % 256 - 128) b) 0 S.length = S := by
                have e8 : sl (pq P0 b (P0 q 1) ((v / 2 ^ ((8 : Int) * (i : Int)).toNat + 128) % 256 - 128) b) 0 S.length = sl (M1 b) 0 S.length := sl_congr _ 0 0 (fun j hj => by rw [pq_ne _ _ _ _ (by omega), g0, pq_o _ _ _ (by omega)])
                rw [e8]
                exact a3
              rw [e9, show ((8 : Int) * (i : Int)).toNat = 8 * i by omega, hx]
              generalize v / 2 ^ (8 * i) = y
              rw [show ((y + 128) % 256 - 128) % 256 = y % 256 by omega]
            have f2 : maF M1 P2 q := ⟨fun c _ _ x3 x4 _ _ => p2o c x3 (by omega), fun j _ _ _ => by rw [p2o 168 (by omega) (by omega)]⟩
            have T2 : (o_al 1 (o_get 14 1 1 (o_ic 8192 (b306_77 (d + 19) (fW (d + 19) kd306 K) K))) : FC) [some (fx 168), some (gr q), some (tj v), none, some (ti n), some (ti i)] [] (sh, P2, nx, zl) := by
              refine ⟨_, s1, ?_⟩
              refine ⟨by omega, ?_⟩
              refine ⟨by omega, fun w4 => ?_, fun w4 => ?_⟩
              · -- no piece is full
                have ed : (S ++ [x]).length / 8192 = S.length / 8192 := by
                  rw [sl1]
                  omega
                have cg : ∀ j : Nat, j ≤ S.length / 8192 → clG (1 - op % 2) (S ++ [x]) 0 j = clG (1 - op % 2) S 0 j := fun j hj => clG_ap j (by omega)
                refine NEXT P2 f2 ⟨?_, by rw [p26, sl1, if_neg (by omega)]⟩
                rw [tk2]
                refine ⟨⟨by rw [p21, sl1]; rfl, by omega, p2b⟩, by rw [ed, p2n 3 (by decide) (by decide)]; exact a4, ⟨?_, ?_⟩, fun j hj => ?_⟩
                · rw [ed, cg _ (Nat.le_refl _), p2n 5 (by decide) (by decide)]
                  exact a5
                · rw [ed, cg _ (Nat.le_refl _), p2o cl (by omega) (by omega)]
                  exact a6
                · rw [ed] at hj
                  rw [cg j hj, p2o st (by omega) (by omega)]
                  exact a7 j hj
              · -- a piece is full
                obtain ⟨k0, hk0⟩ : ∃ k0 : Nat, (S ++ [x]).length = 8192 * (k0 + 1) := ⟨(S.length + 1) / 8192 - 1, by omega⟩
                have ek : S.length / 8192 = k0 := by omega
                have ed : (S ++ [x]).length / 8192 = k0 + 1 := by omega
                have cg : ∀ j : Nat, j ≤ k0 → clG (1 - op % 2) (S ++ [x]) 0 j = clG (1 - op % 2) S 0 j := fun j hj => clG_ap j (by omega)
                have cl8 := clG_len (z := 1 - op % 2) (R := S) (k := 0) k0
                have es : clG (1 - op % 2) (S ++ [x]) 0 (k0 + 1) = clG (1 - op % 2) S 0 k0 ++ pcY (1 - op % 2) (pcL (S ++ [x]) k0) := by
                  show clG (1 - op % 2) (S ++ [x]) 0 k0 ++ pcY (1 - op % 2) (pcL (S ++ [x]) (0 + k0)) = _
                  rw [cg k0 (Nat.le_refl _), Nat.zero_add]
                rw [ek] at a4 a5 a6 a7
                refine closePiece_Y (d := d) (C := S ++ [x]) (Z := clG (1 - op % 2) S 0 k0) (k0 := k0) hq0 hop (by rw [p2o 168 (by omega) (by omega)]; exact c69) (by rw [p21, sl1]; rfl) p2b (by rw [p2n 3 (by decide) (by decide)]; exact a4) (by omega) (by omega) (by rw [p2n 5 (by decide) (by decide)]; exact a5) (by rw [p2o cl (by omega) (by omega)]; exact a6) cl8 (fun hh => by omega) (fun _ M3 f3 w3 w5 wz ws wo => ?_)
                refine NEXT M3 (maF_t f2 ⟨fun c x1 x2 x3 x4 x5 x6 => f3.1 c x1 x2 x3 x5 x6, f3.2.1⟩) ⟨?_, by rw [f3.2.2 6 (by decide) (by decide), p26, sl1, if_neg (by omega)]⟩
                rw [tk2]
                refine ⟨⟨by rw [f3.2.2 1 (by decide) (by decide), p21, sl1]; rfl, by omega, by rw [f3.1 b (by omega) (by omega) (by omega) (by omega) (by omega)]; exact p2b⟩, by rw [ed, w3]; rfl, ⟨by rw [ed, es]; exact w5, by rw [ed, es]; exact wz⟩, fun j hj => ?_⟩
                rw [ed] at hj
                by_cases cj : j = k0 + 1
                · rw [cj, es]
                  exact ws
                · rw [cg j (by omega), wo _ (by omega), p2o st (by omega) (by omega)]
                  exact a7 j (by omega)
            refine ⟨_, s1, ?_⟩
            refine ⟨_, ⟨by omega, s1, rfl⟩, ?_⟩
            rw [g2, g1] at T2
            exact T2
          rw [g0] at T
          exact T
  refine L (n + 1) 0 M (by omega) (by omega) (maF_r M q) ?_
  show mrO M q b st cl (1 - op % 2) (R ++ [])
  rw [List.append_nil]
  exact h
end MADDTO
