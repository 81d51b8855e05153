/-! FREEZING: tables; bytes put over others, the class -/
def ovL : List Int → Nat → List Int → List Int
  | X, _, [] => X
  | X, p, y :: r => ovL (X.set p y) (p + 1) r
theorem ovL_app : ∀ (Y Z X : List Int) (p : Nat), ovL (ovL X p Y) (p + Y.length) Z = ovL X p (Y ++ Z)
  | [], _, _, _ => rfl
  | y :: r, Z, X, p => by
    show ovL (ovL (X.set p y) (p + 1) r) (p + (r.length + 1)) Z = ovL (X.set p y) (p + 1) (r ++ Z)
    rw [← ovL_app r Z (X.set p y) (p + 1), show p + (r.length + 1) = p + 1 + r.length by omega]
theorem ovL_len : ∀ (Y X : List Int) (p : Nat), (ovL X p Y).length = X.length
  | [], _, _ => rfl
  | y :: r, X, p => by
    show (ovL (X.set p y) (p + 1) r).length = X.length
    rw [ovL_len r, List.length_set]
theorem ovL_eq : ∀ (Y X A : List Int), Y.length ≤ X.length → ovL (A ++ X) A.length Y = A ++ (Y ++ X.drop Y.length)
  | [], _, _, _ => rfl
  | y :: r, [], A, h => by
    have : r.length + 1 ≤ 0 := h
    omega
  | y :: r, x :: X, A, h => by
    have h2 : r.length + 1 ≤ X.length + 1 := h
    show ovL ((A ++ x :: X).set A.length y) (A.length + 1) r = A ++ (y :: (r ++ X.drop r.length))
    have e : (A ++ x :: X).set A.length y = (A ++ [y]) ++ X := by
      rw [List.set_append_right _ _ (Nat.le_refl _), Nat.sub_self, List.append_assoc]
      rfl
    have l : (A ++ [y]).length = A.length + 1 := by
      rw [List.length_append]
      rfl
    rw [e, ← l, ovL_eq r X (A ++ [y]) (by omega), List.append_assoc]
    rfl
/-- the next image, while bytes are put at p over what it has; none: it ran over -/
def rzW (M : FM) (o : Option (List Int)) (p : Nat) : Prop := (0 ≤ M 19 1 ∧ M 19 1 ≤ 131072) ∧ match o with
  | some X => (M 19 1 = p ∧ p ≤ X.length ∧ X.length ≤ 131072) ∧ sl (M 20) 0 X.length = X ∧ M 19 2 = 0
  | none => M 19 2 = 1
def ovO (o : Option (List Int)) (p : Nat) (Y : List Int) : Option (List Int) := o.map (fun X => ovL X p Y)
theorem ovO_app (o : Option (List Int)) (p : Nat) (Y Z : List Int) : ovO (ovO o p Y) (p + Y.length) Z = ovO o p (Y ++ Z) := by
  cases o with
  | none => rfl
  | some X =>
    show some (ovL (ovL X p Y) (p + Y.length) Z) = some (ovL X p (Y ++ Z))
    rw [ovL_app]
def ovH (o : Option (List Int)) (n : Nat) : Prop := ∀ X : List Int, o = some X → n ≤ X.length
theorem ovH_o {o : Option (List Int)} {n p : Nat} {Y : List Int} (h : ovH o n) : ovH (ovO o p Y) n := by
  intro X hX
  cases o with
  | none => cases hX
  | some Z =>
    have e : ovL Z p Y = X := Option.some.inj hX
    rw [← e, ovL_len]
    exact h Z rfl
/-- a table: its pieces, and where each of them begins -/
def tlL (z b : Int) (R : List Int) : Nat → List Int
  | 0 => []
  | k + 1 => tlL z b R k ++ leL (b + ((clG z R 0 k).length : Nat)) 8
def tbT (z b : Int) (R : List Int) : List Int := clG z R 0 (pcN R.length) ++ tlL z b R (pcN R.length)
def tbO (z : Int) (t : Option (List Int)) (R : List Int) : Option (List Int) := t.bind (fun X => apO 131072 (some X) (tbT z X.length R))
def flN (op : Int) : Int := 576 + (if op / 8 % 2 = 0 then 0 else 128) + (if op % 2 = 0 then 0 else 2049) + (if op / 2 % 2 = 0 then 0 else 10) + (if op / 4 % 2 = 0 then 0 else 16)
section CTABLES
variable {d nx zl : Nat} {K : Option TV → FH → Prop} {sh : Nat → Option Shp} {M : FM} {op : Int} {o : Option (List Int)} {p : Nat}
theorem putW_Y {x : Int} (h : rzW M o p) (hp : ovH o (p + 1)) (k : ∀ M2 : FM, (∀ y : Nat, y ≠ 19 → y ≠ 20 → M2 y = M y) → rzW M2 (ovO o p [x % 256]) (p + 1) → K none (sh, M2, nx, zl)) : fm_Y (d + 1) 19 [.ref 19, .int (Int32.ofInt x)] (sh, M, nx, zl) K := by
  obtain ⟨h0, h1⟩ := h
  have P1 : M 19 1 < (131072 : Nat) → rzW (rowW M 19 20 (ur (M 20) (M 19 1) (by1 x 1)) (M 19 1 + 1) (M 19 2)) (ovO o p [x % 256]) (p + 1) := by
    intro w
    cases o with
    | none =>
      refine ⟨by rw [rowW_1]; omega, ?_⟩
      show rowW M 19 20 _ _ _ 19 2 = 1
      rw [rowW_2]
      exact h1
    | some X =>
      have h2 : (M 19 1 = p ∧ p ≤ X.length ∧ X.length ≤ 131072) ∧ sl (M 20) 0 X.length = X ∧ M 19 2 = 0 := h1
      have hp1 := hp X rfl
      refine ⟨by rw [rowW_1]; omega, ?_⟩
      have el : (X.set p (x % 256)).length = X.length := List.length_set
      show (rowW M 19 20 _ _ _ 19 1 = ((p + 1 : Nat) : Int) ∧ p + 1 ≤ (X.set p (x % 256)).length ∧ (X.set p (x % 256)).length ≤ 131072) ∧ sl (rowW M 19 20 _ _ _ 20) 0 (X.set p (x % 256)).length = X.set p (x % 256) ∧ rowW M 19 20 _ _ _ 19 2 = 0
      rw [rowW_1, rowW_2, rowW_b (by decide)]
      refine ⟨⟨by omega, by omega, by omega⟩, ?_, h2.2.2⟩
      refine sl_of (fun i y hy => ?_)
      have hi : i < X.length := by
        have := (List.getElem?_eq_some_iff.1 hy).1
        omega
      have g := sl_get (f := M 20) X.length 0 i hi
      rw [h2.2.1, Int.zero_add] at g
      by_cases q : i = p
      · rw [q, List.getElem?_set_self (by omega)] at hy
        rw [show ((i : Nat) : Int) = M 19 1 by omega, ur_at]
        unfold by1
        rw [Int.ediv_one, show ((x + 128) % 256 - 128) % 256 = x % 256 by omega]
        exact Option.some.inj hy
      · rw [List.getElem?_set_ne (fun w => q w.symm), g] at hy
        rw [ur_ne (by omega)]
        exact Option.some.inj hy
  have P2 : M 19 1 = (131072 : Nat) → rzW (rowW M 19 20 (M 20) (M 19 1) 1) (ovO o p [x % 256]) (p + 1) := by
    intro w
    cases o with
    | none =>
      refine ⟨by rw [rowW_1]; omega, ?_⟩
      show rowW M 19 20 _ _ _ 19 2 = 1
      rw [rowW_2]
    | some X =>
      have h2 : M 19 1 = p ∧ p ≤ X.length ∧ X.length ≤ 131072 := h1.1
      have hp1 := hp X rfl
      omega
  have q := put_Y (d := d) (nx := nx) (sl := zl) (K := K) (M := M) (f := M 20) (s := M 19 1) (o := M 19 2) (x := x) (row19 sh) h0.1 h0.2 (fun w => k _ (fun y y1 y2 => rowW_o y1 y2) (P1 w)) (fun w => k _ (fun y y1 y2 => rowW_o y1 y2) (P2 w))
  rw [rowW_self] at q
  exact q
theorem putTwo_W {x : Int} (hx : -2147483648 ≤ x ∧ x ≤ 2147483647) (h : rzW M o p) (hp : ovH o (p + 2)) (k : ∀ M2 : FM, (∀ y : Nat, y ≠ 19 → y ≠ 20 → M2 y = M y) → rzW M2 (ovO o p (leL x 2)) (p + 2) → K none (sh, M2, nx, zl)) : fm_Y (d + 2) 113 [.ref 19, .int (Int32.ofInt x)] (sh, M, nx, zl) K := by
  refine m113 [gr 19, ti x] ?_
  refine ⟨⟨_, (row19 sh).1.1⟩, putW_Y h (fun X hX => by have := hp X hX; omega) (fun M1 f1 h1 => ?_)⟩
  refine ⟨hx, ⟨_, (row19 sh).1.1⟩, putW_Y h1 (ovH_o (fun X hX => by have := hp X hX; omega)) (fun M2 f2 h2 => ?_)⟩
  refine k M2 (fun y y1 y2 => (f2 y y1 y2).trans (f1 y y1 y2)) ?_
  have e := ovO_app o p [x % 256] [x / 256 % 256]
  have h3 : rzW M2 (ovO (ovO o p [x % 256]) (p + [x % 256].length) [x / 256 % 256]) (p + 2) := h2
  rw [e] at h3
  exact h3
theorem putFour_W {x : Int} (hx : -2147483648 ≤ x ∧ x ≤ 2147483647) (h : rzW M o p) (hp : ovH o (p + 4)) (k : ∀ M2 : FM, (∀ y : Nat, y ≠ 19 → y ≠ 20 → M2 y = M y) → rzW M2 (ovO o p (leL x 4)) (p + 4) → K none (sh, M2, nx, zl)) : fm_Y (d + 2) 62 [.ref 19, .int (Int32.ofInt x)] (sh, M, nx, zl) K := by
  have H : ∀ i : Nat, i ≤ 4 → ovH o (p + i) := fun i hi X hX => by have := hp X hX; omega
  refine m62 [gr 19, ti x] ?_
  refine ⟨⟨_, (row19 sh).1.1⟩, putW_Y h (H 1 (by omega)) (fun M1 f1 h1 => ?_)⟩
  refine ⟨hx, ⟨_, (row19 sh).1.1⟩, putW_Y h1 (ovH_o (H 2 (by omega))) (fun M2 f2 h2 => ?_)⟩
  refine ⟨hx, ⟨_, (row19 sh).1.1⟩, putW_Y h2 (ovH_o (ovH_o (H 3 (by omega)))) (fun M3 f3 h3 => ?_)⟩
  refine ⟨hx, ⟨_, (row19 sh).1.1⟩, putW_Y h3 (ovH_o (ovH_o (ovH_o (H 4 (by omega))))) (fun M4 f4 h4 => ?_)⟩
  refine k M4 (fun y y1 y2 => (f4 y y1 y2).trans ((f3 y y1 y2).trans ((f2 y y1 y2).trans (f1 y y1 y2)))) ?_
  have e1 := ovO_app o p [x % 256] [x / 256 % 256]
  have e2 := ovO_app o p ([x % 256] ++ [x / 256 % 256]) [x / 65536 % 256]
  have e3 := ovO_app o p (([x % 256] ++ [x / 256 % 256]) ++ [x / 65536 % 256]) [x / 16777216 % 256]
  have h5 : rzW M4 (ovO (ovO (ovO (ovO o p [x % 256]) (p + [x % 256].length) [x / 256 % 256]) (p + ([x % 256] ++ [x / 256 % 256]).length) [x / 65536 % 256]) (p + (([x % 256] ++ [x / 256 % 256]) ++ [x / 65536 % 256]).length) [x / 16777216 % 256]) (p + 4) := h4
  rw [e1, e2, e3] at h5
  have e : leL x 4 = (([x % 256] ++ [x / 256 % 256]) ++ [x / 65536 % 256]) ++ [x / 16777216 % 256] := by
    show [x % 256, x / 256 % 256, x / 256 / 256 % 256, x / 256 / 256 / 256 % 256] = [x % 256, x / 256 % 256, x / 65536 % 256, x / 16777216 % 256]
    rw [show x / 256 / 256 = x / 65536 by omega, show x / 65536 / 256 = x / 16777216 by omega]
  rw [e]
  exact h5
theorem putEight_W {x : Int} (hx : -9223372036854775808 ≤ x ∧ x ≤ 9223372036854775807) (h : rzW M o p) (hp : ovH o (p + 8)) (k : ∀ M2 : FM, (∀ y : Nat, y ≠ 19 → y ≠ 20 → M2 y = M y) → rzW M2 (ovO o p (leL x 8)) (p + 8) → K none (sh, M2, nx, zl)) : fm_Y (d + 2) 102 [.ref 19, .long (Int64.ofInt x)] (sh, M, nx, zl) K := by
  refine m102 [gr 19, tj x] ?_
  have L : ∀ (N i : Nat) (M1 : FM), 8 - i < N → i ≤ 8 → (∀ y : Nat, y ≠ 19 → y ≠ 20 → M1 y = M y) → rzW M1 (ovO o p (leL x i)) (p + i) → fm_X (d + 1) kd102 2 [some (gr 19), some (tj x), none, some (ti i)] [] (sh, M1, nx, zl) K := by
    intro N
    induction N with
    | zero =>
      intro i M1 hN
      omega
    | succ N ih =>
      intro i M1 hN hi f1 h1
      refine s102_2 (d + 1) K _ _ _ ?_
      refine ⟨by omega, fun w => ?_, fun w => ?_⟩
      · have e : i = 8 := by omega
        rw [e] at h1
        exact k M1 f1 h1
      · refine ⟨⟨by omega, by omega, hx⟩, ⟨_, (row19 sh).1.1⟩, putW_Y h1 (ovH_o (fun X hX => by have := hp X hX; omega)) (fun M2 f2 h2 => ?_)⟩
        refine ih (i + 1) M2 (by omega) (by omega) (fun y y1 y2 => (f2 y y1 y2).trans (f1 y y1 y2)) ?_
        rw [show ((8 : Int) * (i : Int)).toNat = 8 * i by omega] at h2
        have e := ovO_app o p (leL x i) [x / 2 ^ (8 * i) % 256]
        rw [leL_len, ← leL_back] at e
        rw [e] at h2
        exact h2
  refine L 9 0 M (by omega) (by omega) (fun _ _ _ => rfl) ?_
  have e : ovO o p (leL x 0) = o := by
    cases o with
    | none => rfl
    | some X => rfl
  rw [e]
  exact h
theorem flags_Y (hop : 0 ≤ op ∧ op ≤ 15) (h17 : M 18 17 = op) (k : K (some (ti (flN op))) (sh, M, nx, zl)) : fm_Y (d + 1) 125 [.ref 18] (sh, M, nx, zl) K := by
  have A := iand_op (op := M 18 17) (by rw [h17]; exact hop)
  have B69 : ∀ u v : Int, u + v = flN op → b125_69 d (fW d kd125 K) K [some (fx 18)] [ti v, ti u] (sh, M, nx, zl) := by
    intro u v h
    show K (some (ti (u + v))) (sh, M, nx, zl)
    rw [h]
    exact k
  have B53 : ∀ u v : Int, u + v + (if op / 4 % 2 = 0 then 0 else 16) = flN op → b125_53 d (fW d kd125 K) K [some (fx 18)] [ti v, ti u] (sh, M, nx, zl) := by
    intro u v h
    refine ⟨_, A.2.1, ?_⟩
    rw [h17]
    refine ⟨by omega, fun w => ?_, fun w => ?_⟩
    · rw [if_pos (by omega)] at h
      exact B69 _ _ h
    · rw [if_neg (by omega)] at h
      exact B69 _ _ h
  have B37 : ∀ u v : Int, u + v + (if op / 2 % 2 = 0 then 0 else 10) + (if op / 4 % 2 = 0 then 0 else 16) = flN op → b125_37 d (fW d kd125 K) K [some (fx 18)] [ti v, ti u] (sh, M, nx, zl) := by
    intro u v h
    refine ⟨_, A.1, ?_⟩
    rw [h17]
    refine ⟨by omega, fun w => ?_, fun w => ?_⟩
    · rw [if_pos (by omega : op / 2 % 2 = 0)] at h
      exact B53 _ _ h
    · rw [if_neg (by omega : ¬ op / 2 % 2 = 0)] at h
      exact B53 _ _ h
  have B20 : ∀ u v : Int, u + v + (if op % 2 = 0 then 0 else 2049) + (if op / 2 % 2 = 0 then 0 else 10) + (if op / 4 % 2 = 0 then 0 else 16) = flN op → b125_20 d (fW d kd125 K) K [some (fx 18)] [ti v, ti u] (sh, M, nx, zl) := by
    intro u v h
    refine ⟨by omega, fun w => ?_, fun w => ?_⟩
    · rw [if_pos (by omega : op % 2 = 0)] at h
      exact B37 _ _ h
    · rw [if_neg (by omega : ¬ op % 2 = 0)] at h
      exact B37 _ _ h
  refine m125 [fx 18] ?_
  refine ⟨_, A.2.2, ?_⟩
  rw [h17]
  refine ⟨by omega, fun w => ?_, fun w => ?_⟩
  · refine B20 576 0 ?_
    unfold flN
    rw [if_pos (by omega : op / 8 % 2 = 0)]
  · refine B20 576 128 ?_
    unfold flN
    rw [if_neg (by omega : ¬ op / 8 % 2 = 0)]
theorem apO_none (n : Nat) (Y : List Int) : apO n none Y = none := rfl
theorem tbO_ap {z b : Int} {t : Option (List Int)} {R : List Int} (h : ∀ X : List Int, t = some X → b = X.length) : apO 131072 t (tbT z b R) = tbO z t R := by
  cases t with
  | none => rfl
  | some X =>
    rw [h X rfl]
    rfl
theorem putTable_Y {q r b st n : Nat} {R : List Int} {t : Option (List Int)} (hq : psS sh q r b st n) (hC : pkC M) (hop : 0 ≤ op ∧ op ≤ 15) (h17 : M 18 17 = op) (hz : pz M q r b st n R) (ht : rzO M 19 20 131072 t)
    (k : ∀ (M2 : FM) (v : Int), clF M M2 q st 19 20 → (0 ≤ v ∧ v ≤ 131072) → rzO M2 19 20 131072 (tbO (1 - op % 2) t R) → (∀ X : List Int, t = some X → tbO (1 - op % 2) t R ≠ none → v = X.length + ((clG (1 - op % 2) R 0 (pcN R.length)).length : Nat)) → K (some (ti v)) (sh, M2, nx, zl)) : fm_Y (d + 7) 123 [.ref 18, .ref q] (sh, M, nx, zl) K := by
  obtain ⟨zr, zq, zs⟩ := hz
  obtain ⟨⟨h1, h2, h3⟩, ⟨⟨a1, a2⟩, ⟨b1, b2⟩, ⟨c1, c2⟩, ⟨e1, e2⟩⟩, ⟨n1, n2, n3, n4, n5, n6⟩, hn⟩ := id hq
  have z01 : 0 ≤ 1 - op % 2 ∧ 1 - op % 2 ≤ 1 := by omega
  have t19 := ht.1
  have rl : M r 1 = R.length := zr.2.1
  have rl2 := zr.1
  obtain ⟨z, hzz⟩ : ∃ z : Int, z = 1 - op % 2 := ⟨_, rfl⟩
  obtain ⟨bg, hbg⟩ : ∃ bg : Int, bg = M 19 1 := ⟨_, rfl⟩
  refine m123 [fx 18, gr q] ?_
  refine packsRows_Y (d := d + 5) (op := op) h17 ?_
  refine ⟨⟨_, h1⟩, ?_⟩
  refine close_ok (d := d) (k0 := 0) (t := t) (least := 1) hq (row19 sh) (Or.inl ⟨rfl, rfl⟩) hC z01 (by omega) zr (by rw [zq]; rfl) (by omega) (fun i hi => ?_) (by show rzO M 19 20 131072 (apO 131072 t []); rw [rzO_nil ht]; exact ht) (fun M2 j f2 j0 j8 p2 s2 w2 g1 g2 => ?_)
  · have ei : i = 0 := by omega
    rw [ei]
    exact zs
  have ej : j = pcN R.length := by
    unfold pcN
    by_cases c : j = 0
    · omega
    · have := g1 (j - 1) (by omega) (by omega)
      omega
  rw [← hzz] at k s2 w2
  have m19 := w2.1
  obtain ⟨v, hv⟩ : ∃ v : Int, v = M2 19 1 := ⟨_, rfl⟩
  have LP : ∀ (N i : Nat) (M3 : FM), j - i < N → i ≤ j → (∀ y : Nat, y ≠ 19 → y ≠ 20 → M3 y = M2 y) → rzO M3 19 20 131072 (apO 131072 t (clG z R 0 j ++ tlL z bg R i)) → fm_X (d + 6) kd123 36 [some (fx 18), some (gr q), some (ti bg), some (ti v), some (ti i)] [] (sh, M3, nx, zl) K := by
    intro N
    induction N with
    | zero =>
      intro i M3 hN
      omega
    | succ N ih =>
      intro i M3 hN hi f3 w3
      have q3 : M3 q 2 = j := by rw [f3 q (by omega) (by omega)]; exact p2
      refine s123_36 (d + 6) K _ _ _ ?_
      refine ⟨_, h1, ?_⟩
      refine ⟨by omega, fun w => ?_, fun w => ?_⟩
      · have ei : i = j := by omega
        rw [ei, ej] at w3
        have w4 : rzO M3 19 20 131072 (tbO z t R) := by
          rw [← tbO_ap (b := bg) (fun X hX => by rw [hX] at ht; rw [hbg]; exact ht.2.1)]
          exact w3
        refine k M3 v ⟨fun c h1 h2 h3 h4 h5 => by rw [f3 c h3 h4, f2.1 c h1 h2 h3 h4 h5], fun i hi => by rw [f3 q (by omega) (by omega), f2.2 i hi]⟩ (by omega) w4 (fun X hX hne => ?_)
        rw [hX] at w2 hne
        have fit : X.length + (clG z R 0 j).length ≤ 131072 := by
          by_cases c : X.length + (clG z R 0 j).length ≤ 131072
          · exact c
          · have e : tbO z (some X) R = none := by
              show apO 131072 (some X) (tbT z X.length R) = none
              refine apO_not (fun h => c ?_)
              unfold tbT at h
              rw [List.length_append, ← ej] at h
              omega
            exact absurd e hne
        rw [apO_fit fit] at w2
        have := w2.2.1
        rw [List.length_append, ej] at this
        omega
      · have sti := s2 i (by omega)
        have sll := clG_len (z := z) (R := R) (k := 0) i
        have u : M3 st i = (clG z R 0 i).length := by rw [f3 st (by omega) (by omega)]; exact sti
        refine ⟨_, h1, ?_⟩
        refine ⟨9, h3, ⟨by omega, by omega, by omega⟩, ?_⟩
        refine ⟨by omega, ?_⟩
        refine putEight_O (d := d + 4) (row19 sh) (by omega) w3 (fun M4 f4 w4 => ?_)
        refine ih (i + 1) M4 (by omega) (by omega) (fun y y1 y2 => by rw [f4 y y1 y2, f3 y y1 y2]) ?_
        rw [u, apO_app, List.append_assoc] at w4
        exact w4
  have F := LP (j + 1) 0 M2 (by omega) (by omega) (fun _ _ _ => rfl) (by show rzO M2 19 20 131072 (apO 131072 t (clG z R 0 j ++ [])); rw [List.append_nil]; exact w2)
  rw [hbg, hv] at F
  exact F
end CTABLES
