/-! FREEZING: a piece is closed; the reference -/
/-- what closing a piece leaves -/
def mcpF (M M2 : FM) (q : Nat) : Prop := (∀ c : Nat, c ≠ 168 → (c < 188 ∨ 203 < c) → c ≠ q → c ≠ q + 2 → c ≠ q + 3 → M2 c = M c) ∧ (∀ i : Int, i ≠ 28 → i ≠ 31 → i ≠ 42 → M2 168 i = M 168 i) ∧ ∀ i : Int, i ≠ 3 → i ≠ 5 → M2 q i = M q i
section MCLOSE
variable {d nx zl : Nat} {K : Option TV → FH → Prop} {sh : Nat → Option Shp} {M : FM} {q b st cl : Nat} {op : Int}
theorem closePiece_Y {C Z : List Int} {k0 : Nat} (hq : mrS sh q b st cl) (hop : 0 ≤ op ∧ op ≤ 15) (h69 : M 168 69 = op) (h1 : M q 1 = C.length) (hb : sl (M b) 0 C.length = C) (h3 : M q 3 = k0) (hk : k0 ≤ 8) (hC : 8192 * k0 ≤ C.length ∧ C.length ≤ 8192 * k0 + 8192 ∧ C.length ≤ 65536) (h5 : M q 5 = Z.length) (hZ : sl (M cl) 0 Z.length = Z) (hZl : Z.length ≤ 8194 * k0)
    (k1 : C.length = 8192 * k0 → K none (sh, M, nx, zl))
    (k2 : C.length ≠ 8192 * k0 → ∀ M2 : FM, mcpF M M2 q → M2 q 3 = (k0 : Int) + 1 → M2 q 5 = (Z ++ pcY (1 - op % 2) (pcL C k0)).length → sl (M2 cl) 0 (Z ++ pcY (1 - op % 2) (pcL C k0)).length = Z ++ pcY (1 - op % 2) (pcL C k0) → M2 st ((k0 : Int) + 1) = (Z ++ pcY (1 - op % 2) (pcL C k0)).length → (∀ i : Int, i ≠ (k0 : Int) + 1 → M2 st i = M st i) → K none (sh, M2, nx, zl)) : fm_Y (d + 19) 307 [.ref 168, .ref q] (sh, M, nx, zl) K := by
  obtain ⟨⟨s1, s2, s3, s4⟩, ⟨q1, q2⟩, e1, e2, e3⟩ := hq
  refine m307 [fx 168, gr q] ?_
  refine ⟨_, s1, ?_⟩
  refine ⟨_, s1, ?_⟩
  have PT : ∀ fr n : Int, fr = 8192 * k0 → n = C.length - fr → (o_il 3 (o_if .ne (o_al 0 (o_get 12 69 69 (o_imask 2 (o_if .ne (o_il 3 (b307_44 (d + 18) (fW (d + 18) kd307 K) K)) (o_al 0 (o_al 1 (o_get 14 0 0 (o_il 2 (o_il 3 (o_callv (d + 18) 271 3 12 (b307_44 (d + 18) (fW (d + 18) kd307 K) K))))))))))) (o_ret K)) : FC) [some (fx 168), some (gr q), some (ti fr), some (ti n), none, none, none] [] (sh, M, nx, zl) := by
    intro fr n hfr hn
    refine ⟨by omega, fun w => ?_, fun w => k1 (by omega)⟩
    have k2' := k2 (by omega)
    obtain ⟨X, hX⟩ : ∃ X, X = pcL C k0 := ⟨_, rfl⟩
    have xl : (X.length : Int) = n := by
      rw [hX, pcL_len (by omega)]
      omega
    have xs : sl (M b) fr n.toNat = X := by
      have := sl_pc (f := M b) (R := C) (k := k0) hb
      rw [← hX, show X.length = n.toNat by omega, show (8192 : Int) * (k0 : Int) = fr by omega] at this
      exact this
    have pp := pkL_pos X (by omega)
    rw [← hX] at k2'
    -- the bytes behind the head
    have LOOP : ∀ (pk hd : Int) (Y : List Int), pcY (1 - op % 2) X = leL hd 2 ++ Y → (0 ≤ pk ∧ pk ≤ 65642) → (pk < n → (Y.length : Int) = pk) → (n ≤ pk → Y = X) → ∀ (N i : Nat) (M1 : FM), Y.length - i < N → i ≤ Y.length → (∀ c : Nat, c ≠ 168 → (c < 188 ∨ 203 < c) → c ≠ cl → M1 c = M c) → (∀ i : Int, i ≠ 28 → i ≠ 31 → i ≠ 42 → M1 168 i = M 168 i) → sl (M1 cl) 0 (Z.length + 2 + i) = Z ++ (leL hd 2 ++ Y.take i) → (pk < n → ∀ (v : Nat) (y : Int), Y[v]? = some y → M1 188 v % 256 = y % 256 ∧ 0 ≤ y ∧ y < 256) → fm_X (d + 18) kd307 95 [some (fx 168), some (gr q), some (ti fr), some (ti n), some (ti pk), some (ti hd), some (ti i)] [] (sh, M1, nx, zl) K := by
      intro pk hd Y hY hpk hy1 hy2 N
      induction N with
      | zero =>
        intro i M1 hN
        omega
      | succ N ih =>
        intro i M1 hN hi o1 n1 z1 h188
        have eq : M1 q = M q := o1 q (by omega) (by omega) (by omega)
        have eb : M1 b = M b := o1 b (by omega) (by omega) (by omega)
        have est : M1 st = M st := o1 st (by omega) (by omega) (by omega)
        have c5 : M1 q 5 = Z.length := by rw [eq]; exact h5
        have mY : ∀ mn : Int, (mn = pk ∧ pk < n ∨ mn = n ∧ n ≤ pk) → b307_109 (d + 18) (fW (d + 18) kd307 K) K [some (fx 168), some (gr q), some (ti fr), some (ti n), some (ti pk), some (ti hd), some (ti i)] [ti mn, ti i] (sh, M1, nx, zl) := by
          intro mn hmn
          have yl : (Y.length : Int) = mn := by
            rcases hmn with ⟨x1, x2⟩ | ⟨x1, x2⟩
            · rw [hy1 x2, x1]
            · rw [hy2 x2, xl, x1]
          have mr : 0 ≤ mn ∧ mn ≤ 8192 := by omega
          refine ⟨by omega, fun w2 => ?_, fun w2 => ?_⟩
          · -- the end
            have ei : i = Y.length := by omega
            have zl2 : (Z ++ pcY (1 - op % 2) X).length = Z.length + 2 + i := by
              rw [hY, List.length_append, List.length_append, leL_len, ei]
              omega
            have E176 : ∀ v : Int, v = mn → b307_176 (d + 18) (fW (d + 18) kd307 K) K [some (fx 168), some (gr q), some (ti fr), some (ti n), some (ti pk), some (ti hd), some (ti i)] [ti v, ti (M1 q 5 + 2), gr q] (sh, M1, nx, zl) := by
              intro v hv
              refine ⟨_, ⟨by omega, s1, rfl⟩, ?_⟩
              obtain ⟨R1, g1⟩ : ∃ R1 : FM, R1 = pq M1 q 5 (M1 q 5 + 2 + v) := ⟨_, rfl⟩
              obtain ⟨R2, g2⟩ : ∃ R2 : FM, R2 = pq R1 q 3 (R1 q 3 + 1) := ⟨_, rfl⟩
              have r5 : R2 q 5 = Z.length + 2 + i := by
                rw [g2, pq_ne _ _ _ _ (by decide), g1, pq_at]
                omega
              have r3 : R2 q 3 = (k0 : Int) + 1 := by
                rw [g2, pq_at, g1, pq_ne _ _ _ _ (by decide), eq]
                omega
              have ro : ∀ c : Nat, c ≠ q → R2 c = M1 c := fun c hc => by rw [g2, pq_o _ _ _ hc, g1, pq_o _ _ _ hc]
              have T2 : (o_al 1 (o_get 14 2 2 (o_al 1 (o_get 14 3 3 (o_al 1 (o_get 14 5 5 (o_iast (o_ret K))))))) : FC) [some (fx 168), some (gr q), some (ti fr), some (ti n), some (ti pk), some (ti hd), some (ti i)] [] (sh, R2, nx, zl) := by
                refine ⟨_, s1, ?_⟩
                refine ⟨_, s1, ?_⟩
                refine ⟨_, s1, ?_⟩
                refine ⟨10, s3, ⟨by omega, by omega, by omega, by omega⟩, ?_⟩
                obtain ⟨R3, g3⟩ : ∃ R3 : FM, R3 = pq R2 st (R2 q 3) (R2 q 5) := ⟨_, rfl⟩
                have r3o : ∀ c : Nat, c ≠ q → c ≠ st → R3 c = M1 c := fun c x1 x2 => by rw [g3, pq_o _ _ _ x2, ro c x1]
                have F := k2' R3 ⟨fun c x1 x2 x3 x4 x5 => by rw [r3o c x3 (by omega), o1 c x1 x2 (by omega)], fun i x1 x2 x3 => by rw [r3o 168 (by omega) (by omega), n1 i x1 x2 x3], fun i x1 x2 => by rw [g3, pq_o _ _ _ (by omega), g2, pq_ne _ _ _ _ x1, g1, pq_ne _ _ _ _ x2, eq]⟩ (by rw [g3, pq_o _ _ _ (by omega), r3]) (by
                  rw [zl2, g3, pq_o _ _ _ (by omega), r5]
                  omega) (by
                  rw [zl2, r3o cl (by omega) (by omega), z1, hY, ei, List.take_length]) (by
                  rw [g3, ← r3, pq_at, zl2, r5]
                  omega) (fun i hi => by rw [g3, pq_ne _ _ _ _ (by rw [r3]; exact hi), ro st (by omega), est])
                rw [g3] at F
                exact F
              have T1 : (o_al 1 (o_dup (o_get 14 3 3 (o_ic 1 (o_iadd (o_put 14 3 3 (o_al 1 (o_get 14 2 2 (o_al 1 (o_get 14 3 3 (o_al 1 (o_get 14 5 5 (o_iast (o_ret K))))))))))))) : FC) [some (fx 168), some (gr q), some (ti fr), some (ti n), some (ti pk), some (ti hd), some (ti i)] [] (sh, R1, nx, zl) := by
                refine ⟨_, s1, ?_⟩
                refine ⟨_, ⟨by omega, s1, rfl⟩, ?_⟩
                rw [g2] at T2
                exact T2
              rw [g1] at T1
              exact T1
            refine ⟨_, s1, ?_⟩
            refine ⟨by omega, fun w3 => E176 n (by omega), fun w3 => E176 pk (by omega)⟩
          · -- a byte more
            have hil : i < Y.length := by omega
            obtain ⟨y, hy⟩ : ∃ y, Y[i]? = some y := ⟨_, List.getElem?_eq_getElem hil⟩
            have PUT : ∀ x : Int, x % 256 = y → b307_150 (d + 18) (fW (d + 18) kd307 K) K [some (fx 168), some (gr q), some (ti fr), some (ti n), some (ti pk), some (ti hd), some (ti i)] [ti x, ti (M1 q 5 + 2 + i), gr cl] (sh, M1, nx, zl) := by
              intro x hxy
              refine ⟨65600, s4, ⟨by omega, by omega, by omega, by omega⟩, ?_⟩
              obtain ⟨R, gR⟩ : ∃ R : FM, R = pq M1 cl (M1 q 5 + 2 + i) x := ⟨_, rfl⟩
              have ro : ∀ c : Nat, c ≠ cl → R c = M1 c := fun c hc => by rw [gR, pq_o _ _ _ hc]
              have et : Y.take (i + 1) = Y.take i ++ [x % 256] := by
                rw [List.take_succ, hy, hxy]
                rfl
              have F := ih (i + 1) R (by omega) (by omega) (fun c x1 x2 x3 => by rw [ro c x3, o1 c x1 x2 x3]) (fun j x1 x2 x3 => by rw [ro 168 (by omega), n1 j x1 x2 x3]) (by
                rw [show Z.length + 2 + (i + 1) = Z.length + 2 + i + 1 by omega, sl_back, et, ← List.append_assoc (leL hd 2), ← List.append_assoc Z, ← z1, gR, show (0 : Int) + ((Z.length + 2 + i : Nat) : Int) = M1 q 5 + 2 + i by omega, pq_at]
                have e9 : sl (pq M1 cl (M1 q 5 + 2 + i) x cl) 0 (Z.length + 2 + i) = sl (M1 cl) 0 (Z.length + 2 + i) := sl_congr _ 0 0 (fun j hj => by rw [pq_ne _ _ _ _ (by omega)])
                rw [e9]) (fun hp v y2 hy2 => by rw [ro 188 (by omega)]; exact h188 hp v y2 hy2)
              rw [gR] at F
              exact F
            refine ⟨_, s1, ?_⟩
            refine ⟨_, s1, ?_⟩
            refine ⟨by omega, fun w3 => ?_, fun w3 => ?_⟩
            · refine ⟨_, s1, ?_⟩
              refine ⟨65536, s2, ⟨by omega, by omega, by omega⟩, ?_⟩
              refine PUT _ ?_
              have g := sl_get (f := M b) n.toNat fr i (by omega)
              rw [xs, ← hy2 w3, hy] at g
              injection g with g
              rw [eb, g]
              omega
            · refine ⟨by omega, ?_⟩
              refine PUT _ ?_
              have g := h188 w3 i y hy
              omega
        refine s307_95 (d + 18) K _ _ _ ?_
        refine ⟨by omega, fun w2 => mY n (Or.inr ⟨rfl, by omega⟩), fun w2 => mY pk (Or.inl ⟨rfl, by omega⟩)⟩
    -- the head
    have B61 : ∀ (pk hd : Int) (Y : List Int) (M1 : FM), pcY (1 - op % 2) X = leL hd 2 ++ Y → (0 ≤ hd ∧ hd ≤ 65535) → (0 ≤ pk ∧ pk ≤ 65642) → (pk < n → (Y.length : Int) = pk) → (n ≤ pk → Y = X) → (∀ c : Nat, c ≠ 168 → (c < 188 ∨ 203 < c) → M1 c = M c) → (∀ i : Int, i ≠ 28 → i ≠ 31 → i ≠ 42 → M1 168 i = M 168 i) → (pk < n → ∀ (v : Nat) (y : Int), Y[v]? = some y → M1 188 v % 256 = y % 256 ∧ 0 ≤ y ∧ y < 256) → b307_61 (d + 18) (fW (d + 18) kd307 K) K [some (fx 168), some (gr q), some (ti fr), some (ti n), some (ti pk), none, none] [ti hd] (sh, M1, nx, zl) := by
      intro pk hd Y M1 hY hh hpk hy1 hy2 o1 n1 h188
      have c5 : M1 q 5 = Z.length := by rw [o1 q (by omega) (by omega)]; exact h5
      refine ⟨_, s1, ?_⟩
      refine ⟨_, s1, ?_⟩
      refine ⟨65600, s4, ⟨by omega, by omega, by omega, by omega⟩, ?_⟩
      obtain ⟨R1, g1⟩ : ∃ R1 : FM, R1 = pq M1 cl (M1 q 5) ((hd + 128) % 256 - 128) := ⟨_, rfl⟩
      have r5 : R1 q 5 = Z.length := by rw [g1, pq_o _ _ _ (by omega), c5]
      have T : (o_al 1 (o_get 14 4 4 (o_al 1 (o_get 14 5 5 (o_ic 1 (o_iadd (o_il 5 (o_ishrc 256 (o_i2b (o_bast (o_ic 0 (o_is 6 (fW (d + 18) kd307 K 95)))))))))))) : FC) [some (fx 168), some (gr q), some (ti fr), some (ti n), some (ti pk), some (ti hd), none] [] (sh, R1, nx, zl) := by
        refine ⟨_, s1, ?_⟩
        refine ⟨_, s1, ?_⟩
        refine ⟨by omega, ?_⟩
        refine ⟨65600, s4, ⟨by omega, by omega, by omega, by omega⟩, ?_⟩
        obtain ⟨R2, g2⟩ : ∃ R2 : FM, R2 = pq R1 cl (R1 q 5 + 1) ((hd / 256 + 128) % 256 - 128) := ⟨_, rfl⟩
        have ro : ∀ c : Nat, c ≠ cl → R2 c = M1 c := fun c hc => by rw [g2, pq_o _ _ _ hc, g1, pq_o _ _ _ hc]
        have F := LOOP pk hd Y hY hpk hy1 hy2 (Y.length + 1) 0 R2 (by omega) (by omega) (fun c x1 x2 x3 => by rw [ro c x3, o1 c x1 x2]) (fun j x1 x2 x3 => by rw [ro 168 (by omega), n1 j x1 x2 x3]) (by
          rw [List.take_zero, List.append_nil]
          show sl (R2 cl) 0 (Z.length + 1 + 1) = Z ++ [hd % 256, hd / 256 % 256]
          rw [sl_back, sl_back]
          have e0 : sl (R2 cl) 0 Z.length = Z := by
            have e9 : sl (R2 cl) 0 Z.length = sl (M cl) 0 Z.length := sl_congr _ 0 0 (fun j hj => by
              rw [g2, pq_ne _ _ _ _ (by omega), g1, pq_ne _ _ _ _ (by omega), o1 cl (by omega) (by omega)])
            rw [e9]
            exact hZ
          have v0 : R2 cl (0 + (Z.length : Int)) = (hd + 128) % 256 - 128 := by
            rw [g2, pq_ne _ _ _ _ (by omega), g1, show (0 : Int) + (Z.length : Int) = M1 q 5 by omega, pq_at]
          have v1 : R2 cl (0 + ((Z.length + 1 : Nat) : Int)) = (hd / 256 + 128) % 256 - 128 := by
            rw [g2, show (0 : Int) + ((Z.length + 1 : Nat) : Int) = R1 q 5 + 1 by omega, pq_at]
          rw [e0, v0, v1, show ((hd + 128) % 256 - 128) % 256 = hd % 256 by omega, show ((hd / 256 + 128) % 256 - 128) % 256 = hd / 256 % 256 by omega, List.append_assoc]
          rfl) (fun hp v y2 hy2 => by rw [ro 188 (by omega)]; exact h188 hp v y2 hy2)
        rw [g2] at F
        exact F
      rw [g1] at T
      exact T
    have B44 : ∀ (pk : Int) (M1 : FM), pk = (if 1 - op % 2 ≠ 0 then ((pkL X).length : Int) else n) → (∀ c : Nat, c ≠ 168 → (c < 188 ∨ 203 < c) → M1 c = M c) → (∀ i : Int, i ≠ 28 → i ≠ 31 → i ≠ 42 → M1 168 i = M 168 i) → (pk < n → ∀ (v : Nat) (y : Int), (pkL X)[v]? = some y → M1 188 v % 256 = y % 256 ∧ 0 ≤ y ∧ y < 256) → b307_44 (d + 18) (fW (d + 18) kd307 K) K [some (fx 168), some (gr q), some (ti fr), some (ti n), none, none, none] [ti pk] (sh, M1, nx, zl) := by
      intro pk M1 hpk o1 n1 h188
      have pr : 0 ≤ pk ∧ pk ≤ 65642 := by
        rw [hpk]
        split <;> omega
      refine ⟨by omega, fun w2 => ?_, fun w2 => ?_⟩
      · refine ⟨_, i32_or (k := 15) (x := n) (y := 1) (p := 32768) (by omega) (by decide) rfl (by omega) (by omega), ?_⟩
        refine B61 pk _ X M1 ?_ (by omega) pr (fun z => by omega) (fun _ => rfl) o1 n1 (fun z => by omega)
        unfold pcY
        rw [if_neg ?_, xl, Int.one_mul]
        intro hh
        rw [if_pos hh.1] at hpk
        omega
      · have hz : 1 - op % 2 ≠ 0 := by
          intro z
          rw [if_neg (fun y => y z)] at hpk
          omega
        rw [if_pos hz] at hpk
        refine B61 pk pk (pkL X) M1 ?_ (by omega) pr (fun _ => hpk.symm) (fun z => by omega) o1 n1 h188
        unfold pcY
        rw [if_pos ⟨hz, by omega⟩, hpk]
    refine ⟨by omega, fun w2 => ?_, fun w2 => ?_⟩
    · refine B44 n M ?_ (fun _ _ _ => rfl) (fun _ _ _ _ => rfl) (fun z => by omega)
      rw [if_neg (by omega)]
    · have e5 := pk_lf (f := M b) (a := fr) (n := n.toNat) xs
      rw [show ((n.toNat : Nat) : Int) = n by omega] at e5
      have eL : ((pkS (M b) fr n).length / 8 : Nat) = (pkL X).length := by rw [pkL_len, ← e5]
      refine ⟨_, s1, ?_⟩
      refine mpack_Y (d := d) (c := b) (nc := 65536) (f := M b) s2 (by omega) (by omega) rfl (by omega) (by omega) (fun M2 p2 v2 => ?_)
      rw [eL]
      refine B44 _ M2 (by rw [if_pos (by omega)]) (fun c x1 x2 => p2.1 c (by omega)) (fun i x1 x2 x3 => p2.2 i x1 x2 x3) (fun _ v y hy => ?_)
      obtain ⟨t1, t2⟩ := pkL_at hy
      rw [← e5] at t1 t2
      have br := byB_r v2.1.2 v
      have v3 := v2.2 v (by omega)
      rw [v3, t2]
      unfold by1
      rw [Int.ediv_one]
      omega
  exact PT (8192 * M q 3) (M q 1 - 8192 * M q 3) (by rw [h3]) (by rw [h1])
end MCLOSE
