/-! FREEZING: pieces are closed; the class -/
theorem sl_of {f : Int → Int} {L : List Int} (h : ∀ (i : Nat) (x : Int), L[i]? = some x → f i % 256 = x) : sl f 0 L.length = L := by
  refine List.ext_getElem? (fun i => ?_)
  by_cases c : i < L.length
  · rw [sl_get L.length 0 i c, show (0 : Int) + (i : Int) = i by omega, List.getElem?_eq_getElem c, h i _ (List.getElem?_eq_getElem c)]
  · rw [List.getElem?_eq_none (by rw [sl_len]; omega), List.getElem?_eq_none (by omega)]
/-- the bytes of a packed row -/
def pkL (X : List Int) : List Int := (List.range ((pkS (lf X) 0 X.length).length / 8)).map (fun i => byB (pkS (lf X) 0 X.length) i)
theorem pkL_len (X : List Int) : (pkL X).length = (pkS (lf X) 0 X.length).length / 8 := by
  unfold pkL
  rw [List.length_map, List.length_range]
theorem pkL_at {X : List Int} {i : Nat} {x : Int} (h : (pkL X)[i]? = some x) : i < (pkS (lf X) 0 X.length).length / 8 ∧ x = byB (pkS (lf X) 0 X.length) i := by
  obtain ⟨h1, h2⟩ := List.getElem?_eq_some_iff.1 h
  rw [pkL_len] at h1
  refine ⟨h1, ?_⟩
  have q : (pkL X)[i]? = some (byB (pkS (lf X) 0 X.length) i) := by
    unfold pkL
    rw [List.getElem?_map, List.getElem?_range h1]
    rfl
  rw [h] at q
  injection q
theorem pk_lf {f : Int → Int} {a : Int} {n : Nat} {X : List Int} (hX : sl f a n = X) : pkS f a n = pkS (lf X) 0 X.length := by
  have hl : X.length = n := by rw [← hX, sl_len]
  rw [hl]
  refine pkS_cg (by omega) (fun i i0 i1 => ?_)
  have g := sl_get (f := f) n a i.toNat (by omega)
  rw [hX] at g
  unfold lf
  rw [show (0 + i).toNat = i.toNat by omega, g]
  show f (a + i) % 256 = f (a + (i.toNat : Nat)) % 256 % 256
  rw [show ((i.toNat : Nat) : Int) = i by omega]
  omega
theorem pk_row {M : FM} {f : Int → Int} {a : Int} {n : Nat} {X : List Int} (hX : sl f a n = X) (h : pbV M (pkS f a n)) : sl (M 24) 0 (pkL X).length = pkL X := by
  refine sl_of (fun i x hx => ?_)
  obtain ⟨h1, h2⟩ := pkL_at hx
  rw [h2, ← pk_lf hX]
  rw [← pk_lf hX] at h1
  exact h.2 i (by omega)
/-- the piece k of a row -/
def pcL (R : List Int) (k : Nat) : List Int := (R.drop (8192 * k)).take 8192
/-- a piece as it is put; z: whether it may be packed -/
def pcY (z : Int) (X : List Int) : List Int := if z ≠ 0 ∧ (pkL X).length < X.length then leL (pkL X).length 2 ++ pkL X else leL ((X.length : Int) + 32768) 2 ++ X
def clG (z : Int) (R : List Int) (k : Nat) : Nat → List Int
  | 0 => []
  | j + 1 => clG z R k j ++ pcY z (pcL R (k + j))
theorem sl_pc {f : Int → Int} {R : List Int} {k : Nat} (h : sl f 0 R.length = R) : sl f (8192 * k) (pcL R k).length = pcL R k := by
  unfold pcL
  rw [List.length_take, List.length_drop]
  by_cases c : 8192 * k ≤ R.length
  · refine List.ext_getElem? (fun i => ?_)
    by_cases ci : i < min 8192 (R.length - 8192 * k)
    · rw [sl_get _ _ i ci, List.getElem?_take_of_lt (by omega), List.getElem?_drop]
      have q := sl_get (f := f) R.length 0 (8192 * k + i) (by omega)
      rw [h] at q
      rw [q, show (0 : Int) + ((8192 * k + i : Nat) : Int) = 8192 * k + i by omega]
    · rw [List.getElem?_eq_none (by rw [sl_len]; omega), List.getElem?_eq_none (by rw [List.length_take, List.length_drop]; omega)]
  · rw [show min 8192 (R.length - 8192 * k) = 0 by omega, List.drop_eq_nil_of_le (by omega)]
    rfl
theorem pcL_len {R : List Int} {k : Nat} (h : 8192 * k ≤ R.length) : ((pcL R k).length : Int) = min 8192 ((R.length : Int) - 8192 * k) := by
  unfold pcL
  rw [List.length_take, List.length_drop]
  omega
def pkZ (z : Int) (X : List Int) : Int := if z ≠ 0 then ((pkL X).length : Int) else X.length
theorem pcY_len (z : Int) (X : List Int) : ((pcY z X).length : Int) = 2 + min (pkZ z X) X.length := by
  unfold pcY pkZ
  by_cases c : z ≠ 0
  · rw [if_pos c]
    by_cases c2 : (pkL X).length < X.length
    · rw [if_pos ⟨c, c2⟩, List.length_append, leL_len]
      omega
    · rw [if_neg (fun w => c2 w.2), List.length_append, leL_len]
      omega
  · rw [if_neg c, if_neg (fun w => c w.1), List.length_append, leL_len]
    omega
/-- a row of pieces, of the freezer -/
def psS (sh : Nat → Option Shp) (q r b st n : Nat) : Prop := (shp sh q = some (.inr (7, [some (some r), some (some st), none])) ∧ rowS sh r b n ∧ shp sh st = some (.inl (.int, 9))) ∧ ((68 ≤ q ∧ q ≤ 87) ∧ (68 ≤ r ∧ r ≤ 87) ∧ (68 ≤ b ∧ b ≤ 87) ∧ (68 ≤ st ∧ st ≤ 87)) ∧ (q ≠ r ∧ q ≠ b ∧ q ≠ st ∧ r ≠ b ∧ r ≠ st ∧ b ≠ st) ∧ n ≤ 65536
theorem ps68 (sh : Nat → Option Shp) : psS sh 68 70 71 69 65536 := ⟨⟨rfl, ⟨⟨rfl, rfl⟩, by decide, by decide, by decide, by decide⟩, rfl⟩, by decide, by decide, by decide⟩
theorem ps72 (sh : Nat → Option Shp) : psS sh 72 74 75 73 65536 := ⟨⟨rfl, ⟨⟨rfl, rfl⟩, by decide, by decide, by decide, by decide⟩, rfl⟩, by decide, by decide, by decide⟩
theorem ps76 (sh : Nat → Option Shp) : psS sh 76 78 79 77 8192 := ⟨⟨rfl, ⟨⟨rfl, rfl⟩, by decide, by decide, by decide, by decide⟩, rfl⟩, by decide, by decide, by decide⟩
theorem ps80 (sh : Nat → Option Shp) : psS sh 80 82 83 81 16000 := ⟨⟨rfl, ⟨⟨rfl, rfl⟩, by decide, by decide, by decide, by decide⟩, rfl⟩, by decide, by decide, by decide⟩
theorem ps84 (sh : Nat → Option Shp) : psS sh 84 86 87 85 16000 := ⟨⟨rfl, ⟨⟨rfl, rfl⟩, by decide, by decide, by decide, by decide⟩, rfl⟩, by decide, by decide, by decide⟩
theorem row19 (sh : Nat → Option Shp) : rowS sh 19 20 131072 := ⟨⟨rfl, rfl⟩, by decide, by decide, by decide, by decide⟩
theorem row88 (sh : Nat → Option Shp) : rowS sh 88 89 65552 := ⟨⟨rfl, rfl⟩, by decide, by decide, by decide, by decide⟩
/-- what closing leaves -/
def clF (M M2 : FM) (q st ta tb : Nat) : Prop := (∀ x : Nat, x ≠ q → x ≠ st → x ≠ ta → x ≠ tb → (x < 22 ∨ 67 < x ∨ (49 < x ∧ x < 64)) → M2 x = M x) ∧ ∀ i : Int, i ≠ 2 → M2 q i = M q i
theorem clF_r (M : FM) (q st ta tb : Nat) : clF M M q st ta tb := ⟨fun _ _ _ _ _ _ => rfl, fun _ _ => rfl⟩
def tcS (ta tb : Nat) : Prop := (ta = 19 ∧ tb = 20) ∨ (ta = 88 ∧ tb = 89)
def rgT (ta : Nat) : Prop := ta < 22 ∨ 67 < ta ∨ (49 < ta ∧ ta < 64)
theorem pkC_cl {M M1 : FM} {q st ta tb : Nat} (h : pkC M) (f : clF M M1 q st ta tb) (hq : 68 ≤ q) (hst : 68 ≤ st) (ht : tcS ta tb) : pkC M1 := by
  have e : ∀ c : Nat, (c = 1 ∨ c = 54 ∨ c = 55 ∨ c = 61 ∨ c = 62) → M1 c = M c := by
    intro c hc
    rcases ht with ⟨x1, x2⟩ | ⟨x1, x2⟩
    · exact f.1 c (by omega) (by omega) (by omega) (by omega) (by omega)
    · exact f.1 c (by omega) (by omega) (by omega) (by omega) (by omega)
  exact ⟨by rw [e 1 (by omega)]; exact h.1, cdT_F h.2.1 (e 54 (by omega)) (e 55 (by omega)), cdT_F h.2.2 (e 61 (by omega)) (e 62 (by omega))⟩
section CLOSE
variable {d nx zl : Nat} {K : Option TV → FH → Prop} {sh : Nat → Option Shp} {M : FM} {q r b st n ta tb nt : Nat}
theorem close_O {k0 : Nat} {z least : Int} {t : Option (List Int)} {C : List Int} (hq : psS sh q r b st n) (ht : rowS sh ta tb nt) (htc : tcS ta tb) (hC : pkC M) (hz : 0 ≤ z ∧ z ≤ 1) (hle : 1 ≤ least ∧ least ≤ 8192) (hsz : M r 1 = C.length) (hby : sl (M b) 0 C.length = C) (hcn : C.length ≤ n) (hk : M q 2 = k0) (hk8 : k0 ≤ 8) (hst : 0 ≤ M st k0 ∧ M st k0 ≤ 8194 * k0) (hto : rzO M ta tb nt t)
    (k : ∀ (M2 : FM) (J : Nat), clF M M2 q st ta tb → M2 q 2 = ((k0 + J : Nat) : Int) → k0 + J ≤ 8 → rzO M2 ta tb nt (apO nt t (clG z C k0 J)) → (∀ i : Nat, i ≤ k0 → M2 st i = M st i) → (∀ i : Nat, i < J → M2 st ((k0 + i + 1 : Nat) : Int) = M2 st ((k0 + i : Nat) : Int) + (pcY z (pcL C (k0 + i))).length) → (∀ i : Nat, i < J → least ≤ (C.length : Int) - 8192 * ((k0 + i : Nat) : Int)) → (8 ≤ k0 + J ∨ (C.length : Int) - 8192 * ((k0 + J : Nat) : Int) < least) → K none (sh, M2, nx, zl)) : fm_Y (d + 6) 117 [.ref q, .ref 22, .int (Int32.ofInt z), .ref ta, .int (Int32.ofInt least)] (sh, M, nx, zl) K := by
  obtain ⟨⟨h1, h2, h3⟩, ⟨⟨a1, a2⟩, ⟨b1, b2⟩, ⟨c1, c2⟩, ⟨e1, e2⟩⟩, ⟨n1, n2, n3, n4, n5, n6⟩, hn⟩ := hq
  have h2r := h2.1.1
  have h2b := h2.1.2
  have T : (ta ≠ q ∧ ta ≠ r ∧ ta ≠ b ∧ ta ≠ st ∧ ta ≠ 24) ∧ (tb ≠ q ∧ tb ≠ r ∧ tb ≠ b ∧ tb ≠ st ∧ tb ≠ 24) ∧ (rgT ta ∧ rgT tb) := by
    unfold rgT
    rcases htc with ⟨x1, x2⟩ | ⟨x1, x2⟩ <;> omega
  obtain ⟨⟨t1, t2, t3, t4, t5⟩, ⟨u1, u2, u3, u4, u5⟩, ⟨u6, u7⟩⟩ := T
  refine m117 [gr q, fx 22, ti z, gr ta, ti least] ?_
  refine ⟨_, h1, ?_⟩
  have L : ∀ (N j : Nat) (M1 : FM) (y6 y7 y8 : Option TV), 8 - (k0 + j) < N → k0 + j ≤ 8 → clF M M1 q st ta tb → M1 q 2 = ((k0 + j : Nat) : Int) → rzO M1 ta tb nt (apO nt t (clG z C k0 j)) → (∀ i : Nat, i ≤ k0 → M1 st i = M st i) → (∀ i : Nat, i < j → M1 st ((k0 + i + 1 : Nat) : Int) = M1 st ((k0 + i : Nat) : Int) + (pcY z (pcL C (k0 + i))).length) → (0 ≤ M1 st ((k0 + j : Nat) : Int) ∧ M1 st ((k0 + j : Nat) : Int) ≤ 8194 * ((k0 + j : Nat) : Int)) → (∀ i : Nat, i < j → least ≤ (C.length : Int) - 8192 * ((k0 + i : Nat) : Int)) → fm_X (d + 5) kd117 6 [some (gr q), some (fx 22), some (ti z), some (gr ta), some (ti least), some (ti ((k0 + j : Nat) : Int)), y6, y7, y8] [] (sh, M1, nx, zl) K := by
    intro N
    induction N with
    | zero =>
      intro j M1 y6 y7 y8 hN
      omega
    | succ N ih =>
      intro j M1 y6 y7 y8 hN hj f1 p1 w1 s1 s2 s3 g1
      have er : M1 r = M r := f1.1 r (by omega) (by omega) (by omega) (by omega) (by omega)
      have eb : M1 b = M b := f1.1 b (by omega) (by omega) (by omega) (by omega) (by omega)
      obtain ⟨kk, hkk⟩ : ∃ kk : Int, kk = ((k0 + j : Nat) : Int) := ⟨_, rfl⟩
      have sz1 : M1 r 1 = C.length := by rw [er]; exact hsz
      refine s117_6 (d + 5) K _ _ _ ?_
      refine ⟨_, h1, ?_⟩
      refine ⟨_, _, h3, ?_⟩
      refine ⟨by omega, fun w => ?_, fun w => ?_⟩
      · exact k M1 j f1 p1 hj w1 s1 s2 g1 (Or.inl (by omega))
      refine ⟨_, h1, ?_⟩
      refine ⟨_, h2r, ?_⟩
      refine ⟨by omega, ?_⟩
      -- the piece
      obtain ⟨X, hX⟩ : ∃ X, X = pcL C (k0 + j) := ⟨_, rfl⟩
      have PT : ∀ m : Int, m = min 8192 ((C.length : Int) - kk * 8192) → least ≤ m → (o_il 2 (o_if .eq (o_il 7 (b117_76 (d + 5) (fW (d + 5) kd117 K) K)) (o_al 1 (b117_57 (d + 5) (fW (d + 5) kd117 K) K))) : FC) [some (gr q), some (fx 22), some (ti z), some (gr ta), some (ti least), some (ti kk), some (ti (kk * 8192)), some (ti m), y8] [] (sh, M1, nx, zl) := by
        intro m hm hlm
        have xl : (X.length : Int) = m := by
          rw [hX, pcL_len (by omega)]
          omega
        have xs : sl (M b) (kk * 8192) m.toNat = X := by
          have := sl_pc (f := M b) (R := C) (k := k0 + j) hby
          rw [← hX, show X.length = m.toNat by omega, show (8192 : Int) * ((k0 + j : Nat) : Int) = kk * 8192 by omega] at this
          exact this
        have yb : 2 ≤ ((pcY z X).length : Int) ∧ ((pcY z X).length : Int) ≤ 2 + m := by
          have yl := pcY_len z X
          have pz0 : 0 ≤ pkZ z X := by
            unfold pkZ
            split <;> omega
          omega
        have m8 : m ≤ 8192 := by omega
        have mc : kk * 8192 + m ≤ C.length := by omega
        have gl : least ≤ (C.length : Int) - 8192 * ((k0 + j : Nat) : Int) := by omega
        clear hm
        -- the end
        have TAIL : ∀ (pk : Int) (M2 : FM), pk = pkZ z X → (0 ≤ pk ∧ pk ≤ 1000000) → clF M M2 q st ta tb → M2 q = M1 q → M2 st = M1 st → rzO M2 ta tb nt (apO nt (apO nt t (clG z C k0 j)) (pcY z X)) → b117_132 (d + 5) (fW (d + 5) kd117 K) K [some (gr q), some (fx 22), some (ti z), some (gr ta), some (ti least), some (ti kk), some (ti (kk * 8192)), some (ti m), some (ti pk)] [] (sh, M2, nx, zl) := by
          intro pk M2 hpk hpb f2 q2 st2 w2
          refine ⟨_, ⟨by omega, h1, rfl⟩, ?_⟩
          obtain ⟨P1, gP⟩ : ∃ P1 : FM, P1 = pq M2 q 2 (kk + 1) := ⟨_, rfl⟩
          have P1q : P1 q 2 = kk + 1 := by rw [gP, pq_at]
          have P1o : ∀ c : Nat, c ≠ q → P1 c = M2 c := fun c hc => by rw [gP, pq_o _ _ _ hc]
          have P1st : P1 st = M1 st := by rw [P1o st (by omega), st2]
          have EN : ∀ mn : Int, mn = min pk m → (o_iadd (o_iast (o_inc 5 1 (fW (d + 5) kd117 K 6))) : FC) [some (gr q), some (fx 22), some (ti z), some (gr ta), some (ti least), some (ti kk), some (ti (kk * 8192)), some (ti m), some (ti pk)] [ti mn, ti (P1 st kk + 2), ti (P1 q 2), gr st] (sh, P1, nx, zl) := by
            intro mn hmn
            refine ⟨9, h3, ⟨by omega, by omega, by omega, by omega⟩, ?_⟩
            rw [P1q]
            obtain ⟨P2, gP2⟩ : ∃ P2 : FM, P2 = pq P1 st (kk + 1) (P1 st kk + 2 + mn) := ⟨_, rfl⟩
            have P2o : ∀ c : Nat, c ≠ q → c ≠ st → P2 c = M2 c := fun c x1 x2 => by rw [gP2, pq_o _ _ _ x2, P1o c x1]
            have P2s : ∀ i : Int, i ≠ kk + 1 → P2 st i = M1 st i := fun i hi => by rw [gP2, pq_ne _ _ _ _ hi, P1st]
            have P2n : P2 st (kk + 1) = M1 st kk + (pcY z X).length := by
              rw [gP2, pq_at, P1st, pcY_len z X, ← hpk, xl, hmn, Int.add_assoc]
            have P2q : ∀ i : Int, i ≠ 2 → P2 q i = M2 q i := fun i hi => by rw [gP2, pq_o _ _ _ n3, gP, pq_ne _ _ _ _ hi]
            have P2q2 : P2 q 2 = kk + 1 := by rw [gP2, pq_o _ _ _ n3, P1q]
            have FIN := ih (j + 1) P2 (some (ti (kk * 8192))) (some (ti m)) (some (ti pk)) (by omega) (by omega) ⟨fun x x1 x2 x3 x4 x5 => by rw [P2o x x1 x2]; exact f2.1 x x1 x2 x3 x4 x5, fun i hi => by rw [P2q i hi]; exact f2.2 i hi⟩ (by rw [P2q2]; omega) (by
                have w3 : rzO P2 ta tb nt (apO nt (apO nt t (clG z C k0 j)) (pcY z X)) := rzO_F w2 (P2o ta t1 t4) (P2o tb u1 u4)
                rw [apO_app, hX] at w3
                exact w3) (fun i hi => by rw [P2s i (by omega)]; exact s1 i hi) (fun i hi => by
                by_cases ci : i = j
                · rw [ci, show ((k0 + j + 1 : Nat) : Int) = kk + 1 by omega, P2n, ← hkk, P2s kk (by omega), hX]
                · rw [P2s _ (by omega), P2s _ (by omega)]
                  exact s2 i (by omega)) (by
                rw [show ((k0 + (j + 1) : Nat) : Int) = kk + 1 by omega, P2n]
                rw [← hkk] at s3
                omega) (fun i hi => by
                by_cases ci : i = j
                · rw [ci]
                  exact gl
                · exact g1 i (by omega))
            rw [show ((k0 + (j + 1) : Nat) : Int) = kk + 1 by omega] at FIN
            rw [gP2] at FIN
            exact FIN
          have T1 : (o_al 0 (o_get 7 1 1 (o_al 0 (o_get 7 2 2 (o_al 0 (o_get 7 1 1 (o_il 5 (o_iald (o_ic 2 (o_iadd (o_il 8 (o_il 7 (o_min (o_iadd (o_iast (o_inc 5 1 (fW (d + 5) kd117 K 6)))))))))))))))) : FC) [some (gr q), some (fx 22), some (ti z), some (gr ta), some (ti least), some (ti kk), some (ti (kk * 8192)), some (ti m), some (ti pk)] [] (sh, P1, nx, zl) := by
            refine ⟨_, h1, ?_⟩
            refine ⟨_, h1, ?_⟩
            refine ⟨_, h1, ?_⟩
            refine ⟨9, h3, ⟨by omega, by omega, by omega⟩, ?_⟩
            refine ⟨by omega, ?_⟩
            exact EN _ rfl
          rw [gP] at T1
          exact T1
        have B76 : ∀ (pk : Int) (M2 : FM), pk = pkZ z X → (0 ≤ pk ∧ pk ≤ 65792) → clF M M2 q st ta tb → M2 q = M1 q → M2 st = M1 st → M2 b = M b → rzO M2 ta tb nt (apO nt t (clG z C k0 j)) → (z ≠ 0 → sl (M2 24) 0 (pkL X).length = pkL X) → b117_76 (d + 5) (fW (d + 5) kd117 K) K [some (gr q), some (fx 22), some (ti z), some (gr ta), some (ti least), some (ti kk), some (ti (kk * 8192)), some (ti m), y8] [ti pk] (sh, M2, nx, zl) := by
          intro pk M2 hpk hpb f2 q2 st2 eb2 w2 hp24
          refine ⟨by omega, fun w => ?_, fun w => ?_⟩
          · have ey : pcY z X = leL (m + 32768) 2 ++ X := by
              unfold pcY
              rw [if_neg ?_, xl]
              intro hh
              unfold pkZ at hpk
              rw [if_pos hh.1] at hpk
              omega
            refine ⟨⟨_, ht.1.1⟩, putTwo_O ht (by omega) w2 (fun M3 f3 w3 => ?_)⟩
            refine ⟨_, h1, ?_⟩
            refine ⟨_, h2r, ?_⟩
            refine ⟨⟨_, ht.1.1⟩, putAll_O ht h2b (by omega) (by omega) (by omega) (by omega) (by omega) (by omega) w3 (fun M4 f4 w4 => ?_)⟩
            refine TAIL pk M4 hpk (by omega) ⟨fun x x1 x2 x3 x4 x5 => ?_, fun i hi => ?_⟩ ?_ ?_ ?_
            · rw [f4 x x3 x4, f3 x x3 x4]
              exact f2.1 x x1 x2 x3 x4 x5
            · rw [f4 q (by omega) (by omega), f3 q (by omega) (by omega)]
              exact f2.2 i hi
            · rw [f4 q (by omega) (by omega), f3 q (by omega) (by omega), q2]
            · rw [f4 st (by omega) (by omega), f3 st (by omega) (by omega), st2]
            · rw [f3 b (by omega) (by omega), eb2, xs, apO_app, ← ey] at w4
              exact w4
          · have hz1 : z ≠ 0 := by
              intro hh
              unfold pkZ at hpk
              rw [if_neg (fun w => w hh)] at hpk
              omega
            have hpk0 := hpk
            unfold pkZ at hpk
            rw [if_pos hz1] at hpk
            have ey : pcY z X = leL pk 2 ++ pkL X := by
              unfold pcY
              rw [if_pos ⟨hz1, by omega⟩, hpk]
            refine ⟨⟨_, ht.1.1⟩, putTwo_O ht (by omega) w2 (fun M3 f3 w3 => ?_)⟩
            refine ⟨⟨_, ht.1.1⟩, putAll_O (c := 24) (nc := 65792) ht rfl (by omega) (by omega) (by omega) (by omega) (by omega) (by omega) w3 (fun M4 f4 w4 => ?_)⟩
            refine TAIL pk M4 hpk0 (by omega) ⟨fun x x1 x2 x3 x4 x5 => ?_, fun i hi => ?_⟩ ?_ ?_ ?_
            · rw [f4 x x3 x4, f3 x x3 x4]
              exact f2.1 x x1 x2 x3 x4 x5
            · rw [f4 q (by omega) (by omega), f3 q (by omega) (by omega)]
              exact f2.2 i hi
            · rw [f4 q (by omega) (by omega), f3 q (by omega) (by omega), q2]
            · rw [f4 st (by omega) (by omega), f3 st (by omega) (by omega), st2]
            · rw [f3 24 (by omega) (by omega), show pk.toNat = (pkL X).length by omega, hp24 hz1, apO_app, ← ey] at w4
              exact w4
        refine ⟨by omega, fun w => ?_, fun w => ?_⟩
        · refine B76 m M1 ?_ (by omega) f1 rfl rfl eb w1 (fun hh => absurd w hh)
          unfold pkZ
          rw [if_neg (fun hh => hh w)]
          omega
        · have eL : ((pkS (M b) (kk * 8192) m).length / 8 : Nat) = (pkL X).length := by
            have e5 := pk_lf (f := M b) (a := kk * 8192) (n := m.toNat) xs
            rw [pkL_len, ← e5, show ((m.toNat : Nat) : Int) = m by omega]
          have pl := pkB_len (f := M b) (a := kk * 8192) (n := m) (by omega)
          have plp := padB_len (pkB (M b) (kk * 8192) m)
          have plt : (pkS (M b) (kk * 8192) m).length ≤ 525139 := by
            unfold pkS
            rw [List.length_append, ckL_len]
            omega
          refine ⟨_, h1, ?_⟩
          refine ⟨_, h2r, ?_⟩
          refine pack_Y (c := b) (nc := n) (f := M b) h2b (by omega) (by omega) eb (by omega) (by omega) ?_ (fun M2 p2 v2 => ?_)
          · exact pkC_cl hC f1 a1 e1 htc
          rw [eL]
          refine B76 ((pkL X).length : Nat) M2 ?_ (by omega) ⟨fun x x1 x2 x3 x4 x5 => ?_, fun i hi => ?_⟩ (p2 q (by omega)) (p2 st (by omega)) ?_ (rzO_F w1 (p2 ta u6) (p2 tb u7)) (fun _ => ?_)
          · unfold pkZ
            rw [if_pos w]
          · rw [p2 x (by omega)]
            exact f1.1 x x1 x2 x3 x4 x5
          · rw [p2 q (by omega)]
            exact f1.2 i hi
          · rw [p2 b (by omega), eb]
          · have v3 : pbV M2 (pkS (M b) (kk * 8192) (m.toNat : Nat)) := by
              rw [show ((m.toNat : Nat) : Int) = m by omega]
              exact v2
            exact pk_row xs v3
      have FI : ∀ m : Int, m = min 8192 ((C.length : Int) - kk * 8192) → (o_is 7 (o_il 7 (o_il 4 (o_icmp .ge (o_il 2 (o_if .eq (o_il 7 (b117_76 (d + 5) (fW (d + 5) kd117 K) K)) (o_al 1 (b117_57 (d + 5) (fW (d + 5) kd117 K) K)))) (o_ret K)))) : FC) [some (gr q), some (fx 22), some (ti z), some (gr ta), some (ti least), some (ti kk), some (ti (kk * 8192)), y7, y8] [ti m] (sh, M1, nx, zl) := by
        intro m hm
        refine ⟨by omega, fun w => PT m hm (by omega), fun w => ?_⟩
        exact k M1 j f1 p1 hj w1 s1 s2 g1 (Or.inr (by omega))
      have R := FI (min 8192 (M1 r 1 - kk * 8192)) (by rw [sz1])
      rw [hkk] at R
      exact R
  have F := L (9 - k0) 0 M none none none (by omega) (by omega) (clF_r M q st ta tb) (by rw [hk]; rfl) ?_ (fun _ _ => rfl) (fun i hi => by omega) (by rw [show k0 + 0 = k0 from rfl]; exact hst) (fun i hi => by omega)
  · rw [show k0 + 0 = k0 from rfl, ← hk] at F
    exact F
  · show rzO M ta tb nt (apO nt t [])
    rw [rzO_nil hto]
    exact hto
end CLOSE
