/-! FREEZING: rows and tables added, the head; the reference -/
/-- what adding a row leaves -/
def arF (M M2 : FM) (q : Nat) : Prop := (∀ c : Nat, c ≠ 168 → (c < 188 ∨ 203 < c) → c ≠ q → c ≠ q + 2 → c ≠ q + 3 → c ≠ 212 → M2 c = M c) ∧ (∀ i : Int, i ≠ 28 → i ≠ 31 → i ≠ 42 → i ≠ 61 → i ≠ 62 → M2 168 i = M 168 i) ∧ ∀ i : Int, i ≠ 3 → i ≠ 5 → M2 q i = M q i
theorem arF_a {M M1 M2 : FM} {q : Nat} (hq : q ≠ 168 ∧ q ≠ 212) (h : arF M M1 q) (g : adF M1 M2) : arF M M2 q := ⟨fun c h1 h2 h3 h4 h5 h6 => by rw [g.1 c h1 h6, h.1 c h1 h2 h3 h4 h5 h6], fun i h1 h2 h3 h4 h5 => by rw [g.2 i h4 h5, h.2.1 i h1 h2 h3 h4 h5], fun i h1 h2 => by rw [g.1 q hq.1 hq.2, h.2.2 i h1 h2]⟩
/-- a row whose pieces are all closed -/
def mrE (M : FM) (q st : Nat) (z : Int) (R : List Int) : Prop := M q 3 = (pcN R.length : Nat) ∧ ∀ i : Nat, i ≤ pcN R.length → M st i = (clG z R 0 i).length
/-- the reference's image, while bytes are added at p over what it has -/
def rbW (M : FM) (X : List Int) (p : Nat) : Prop := (M 168 61 = p ∧ p ≤ X.length ∧ X.length ≤ 131072 ∧ M 168 62 = 0) ∧ ∀ (i : Nat) (y : Int), (i < p ∨ 96 ≤ i) → X[i]? = some y → M 212 i % 256 = y
section MTABLES
variable {d nx zl : Nat} {K : Option TV → FH → Prop} {sh : Nat → Option Shp} {M : FM} {q b st cl : Nat} {op : Int}
theorem addRow_Y {R : List Int} {s : Option (List Int)} (hq : mrS sh q b st cl) (hop : 0 ≤ op ∧ op ≤ 15) (h69 : M 168 69 = op) (h : mrO M q b st cl (1 - op % 2) R) (hR : R.length ≤ 65536) (hs : rbO M s)
    (k : ∀ M2 : FM, arF M M2 q → mrE M2 q st (1 - op % 2) R → rbO M2 (apO 131072 s (clG (1 - op % 2) R 0 (pcN R.length))) → K (some (ti (M 168 61))) (sh, M2, nx, zl)) : fm_Y (d + 20) 312 [.ref 168, .ref q] (sh, M, nx, zl) K := by
  obtain ⟨z, hzz⟩ : ∃ z : Int, z = 1 - op % 2 := ⟨_, rfl⟩
  obtain ⟨⟨s1, s2, s3, s4⟩, ⟨q1, q2⟩, e1, e2, e3⟩ := id hq
  rw [← hzz] at h k
  obtain ⟨⟨⟨a1, a2, a3⟩, a4, ⟨a5, a6⟩, a7⟩, -⟩ := h
  rw [List.take_of_length_le hR] at a1 a2 a3 a4 a5 a6 a7
  have lk := clG_len (z := z) (R := R) (k := 0) (R.length / 8192)
  -- adding what was closed
  have ADD : ∀ (M1 : FM) (W : List Int), arF M M1 q → rbO M1 s → M1 168 61 = M 168 61 → mrE M1 q st z R → W = clG z R 0 (pcN R.length) → M1 q 5 = W.length → sl (M1 cl) 0 W.length = W → W.length ≤ 65600 → (o_al 0 (o_get 12 61 61 (o_is 2 (o_ic 0 (o_is 3 (fW (d + 19) kd312 K 12))))) : FC) [some (fx 168), some (gr q), none, none] [] (sh, M1, nx, zl) := by
    intro M1 W f1 w1 g61 hE hW g5 gW lW
    have LP : ∀ (N i : Nat) (M2 : FM), W.length - i < N → i ≤ W.length → adF M1 M2 → rbO M2 (apO 131072 s (W.take i)) → fm_X (d + 19) kd312 12 [some (fx 168), some (gr q), some (ti (M 168 61)), some (ti i)] [] (sh, M2, nx, zl) K := by
      intro N
      induction N with
      | zero =>
        intro i M2 hN
        omega
      | succ N ih =>
        intro i M2 hN hi f2 w2
        have u5 : M2 q 5 = W.length := by rw [f2.1 q (by omega) (by omega)]; exact g5
        refine s312_12 (d + 19) K _ _ _ ?_
        refine ⟨_, s1, ?_⟩
        refine ⟨by omega, fun w => ?_, fun w => ?_⟩
        · have ei : i = W.length := by omega
          rw [ei, List.take_length, hW] at w2
          have hE2 : mrE M2 q st z R := by
            unfold mrE at *
            rw [f2.1 q (by omega) (by omega), f2.1 st (by omega) (by omega)]
            exact hE
          exact k M2 (arF_a ⟨by omega, by omega⟩ f1 f2) hE2 w2
        · refine ⟨_, s1, ?_⟩
          refine ⟨65600, s4, ⟨by omega, by omega, by omega⟩, ?_⟩
          obtain ⟨y, hy⟩ : ∃ y, W[i]? = some y := ⟨_, List.getElem?_eq_getElem (by omega)⟩
          have gy := sl_get (f := M1 cl) W.length 0 i (by omega)
          rw [gW, hy, Int.zero_add] at gy
          have ev : ((M2 cl i + 128) % 256 - 128) % 256 = y := by
            rw [f2.1 cl (by omega) (by omega), Option.some.inj gy]
            omega
          refine add_Y (d := d + 18) w2 (fun M3 f3 w3 => ?_)
          refine ih (i + 1) M3 (by omega) (by omega) (adF_t f2 f3) ?_
          have et : W.take (i + 1) = W.take i ++ [y] := by
            rw [List.take_add_one, hy]
            rfl
          rw [apO_app, ev, ← et] at w3
          exact w3
    have F := LP (W.length + 1) 0 M1 (by omega) (by omega) (adF_r M1) (by show rbO M1 (apO 131072 s []); rw [rbO_nil w1]; exact w1)
    rw [← g61] at F
    exact F
  refine m312 [fx 168, gr q] ?_
  refine closePiece_Y (d := d) (C := R) (Z := clG z R 0 (R.length / 8192)) (k0 := R.length / 8192) hq hop h69 a1 a3 a4 (by omega) (by omega) a5 a6 (by omega) (fun e => ?_) (fun ne M1 f1 g3 g5 gZ gst gso => ?_)
  · have ep : pcN R.length = R.length / 8192 := by
      unfold pcN
      omega
    refine ADD M (clG z R 0 (R.length / 8192)) ⟨fun _ _ _ _ _ _ _ => rfl, fun _ _ _ _ _ _ => rfl, fun _ _ _ => rfl⟩ hs rfl ⟨by rw [ep]; exact a4, fun i hi => a7 i (by omega)⟩ (by rw [ep]) a5 a6 (by omega)
  · have ep : pcN R.length = R.length / 8192 + 1 := by
      unfold pcN
      omega
    have eW : clG z R 0 (R.length / 8192) ++ pcY (1 - op % 2) (pcL R (R.length / 8192)) = clG z R 0 (R.length / 8192 + 1) := by
      show _ = clG z R 0 (R.length / 8192) ++ pcY z (pcL R (0 + R.length / 8192))
      rw [← hzz, Nat.zero_add]
    rw [eW] at g5 gZ gst
    have l2 := clG_len (z := z) (R := R) (k := 0) (R.length / 8192 + 1)
    refine ADD M1 (clG z R 0 (R.length / 8192 + 1)) ⟨fun c h1 h2 h3 h4 h5 _ => f1.1 c h1 h2 h3 h4 h5, fun i h1 h2 h3 _ _ => f1.2.1 i h1 h2 h3, f1.2.2⟩ (rbO_F hs (f1.2.1 61 (by decide) (by decide) (by decide)) (f1.2.1 62 (by decide) (by decide) (by decide)) (f1.1 212 (by omega) (by omega) (by omega) (by omega) (by omega))) (f1.2.1 61 (by decide) (by decide) (by decide)) ⟨by rw [ep, g3]; omega, fun i hi => ?_⟩ (by rw [ep]) g5 gZ (by omega)
    by_cases c : i = R.length / 8192 + 1
    · rw [c, show ((R.length / 8192 + 1 : Nat) : Int) = ((R.length / 8192 : Nat) : Int) + 1 by omega]
      exact gst
    · rw [gso i (by omega)]
      exact a7 i (by omega)
theorem addTable_Y {R : List Int} {s : Option (List Int)} (hop : 0 ≤ op ∧ op ≤ 15) (h69 : M 168 69 = op) (h : mrO M 230 231 232 233 (1 - op % 2) R) (hR : R.length ≤ 65536) (hs : rbO M s)
    (k : ∀ (M2 : FM) (v : Int), arF M M2 230 → M2 232 0 = 0 → (0 ≤ v ∧ v ≤ 131072) → rbO M2 (tbO (1 - op % 2) s R) → (∀ X : List Int, s = some X → tbO (1 - op % 2) s R ≠ none → v = X.length + ((clG (1 - op % 2) R 0 (pcN R.length)).length : Nat)) → K (some (ti v)) (sh, M2, nx, zl)) : fm_Y (d + 21) 313 [.ref 168] (sh, M, nx, zl) K := by
  obtain ⟨z, hzz⟩ : ∃ z : Int, z = 1 - op % 2 := ⟨_, rfl⟩
  have t61 := hs.1
  refine m313 [fx 168] ?_
  refine addRow_Y (d := d) (s := s) (mr230 sh) hop h69 h hR hs (fun M1 f1 hE w1 => ?_)
  rw [← hzz] at k hE w1
  have m61 := w1.1
  obtain ⟨v, hv⟩ : ∃ v : Int, v = M1 168 61 := ⟨_, rfl⟩
  obtain ⟨bg, hbg⟩ : ∃ bg : Int, bg = M 168 61 := ⟨_, rfl⟩
  have p8 : pcN R.length ≤ 8 := by
    unfold pcN
    omega
  have LP : ∀ (N i : Nat) (M2 : FM), pcN R.length - i < N → i ≤ pcN R.length → adF M1 M2 → rbO M2 (apO 131072 s (clG z R 0 (pcN R.length) ++ tlL z bg R i)) → fm_X (d + 20) kd313 16 [some (fx 168), some (ti bg), some (ti v), some (ti i)] [] (sh, M2, nx, zl) K := by
    intro N
    induction N with
    | zero =>
      intro i M2 hN
      omega
    | succ N ih =>
      intro i M2 hN hi f2 w2
      have u3 : M2 230 3 = (pcN R.length : Nat) := by rw [f2.1 230 (by omega) (by omega)]; exact hE.1
      have ust : ∀ j : Nat, j ≤ pcN R.length → M2 232 j = (clG z R 0 j).length := fun j hj => by rw [f2.1 232 (by omega) (by omega)]; exact hE.2 j hj
      refine s313_16 (d + 20) K _ _ _ ?_
      refine ⟨by omega, fun w => ?_, fun w => ?_⟩
      · have ei : i = pcN R.length := by omega
        rw [ei] at w2
        have w3 : rbO M2 (tbO z s R) := by
          rw [← tbO_ap (b := bg) (fun X hX => by rw [hX] at hs; rw [hbg]; exact hs.2.1)]
          exact w2
        refine k M2 v (arF_a ⟨by omega, by omega⟩ f1 f2) (ust 0 (by omega)) (by omega) w3 (fun X hX hne => ?_)
        rw [hX] at w1 hne
        have fit : X.length + (clG z R 0 (pcN R.length)).length ≤ 131072 := by
          by_cases c : X.length + (clG z R 0 (pcN R.length)).length ≤ 131072
          · exact c
          · have e : tbO z (some X) R = none := by
              show apO 131072 (some X) (tbT z X.length R) = none
              refine apO_not (fun h => c ?_)
              unfold tbT at h
              rw [List.length_append] at h
              omega
            exact absurd e hne
        rw [apO_fit fit] at w1
        have := w1.2.1
        rw [List.length_append] at this
        omega
      · have sti := ust i (by omega)
        have sll := clG_len (z := z) (R := R) (k := 0) i
        refine ⟨by omega, ?_⟩
        refine ⟨by omega, ?_⟩
        refine addNumber_Y (d := d + 18) (n := 8) (by omega) (by omega) w2 (fun M3 f3 w3 => ?_)
        refine ih (i + 1) M3 (by omega) (by omega) (adF_t f2 f3) ?_
        rw [sti, apO_app, List.append_assoc] at w3
        exact w3
  have F := LP (pcN R.length + 1) 0 M1 (by omega) (by omega) (adF_r M1) (by show rbO M1 (apO 131072 s (clG z R 0 (pcN R.length) ++ [])); rw [List.append_nil]; exact w1)
  rw [hbg, hv] at F
  exact F
theorem add_W {x : Int} {X : List Int} {p : Nat} (h : rbW M X p) (hp : p < X.length) (k : ∀ M2 : FM, adF M M2 → rbW M2 (X.set p (x % 256)) (p + 1) → K none (sh, M2, nx, zl)) : fm_Y (d + 1) 300 [.ref 168, .int (Int32.ofInt x)] (sh, M, nx, zl) K := by
  obtain ⟨⟨h1, h2, h3, h4⟩, h5⟩ := h
  refine m300 [fx 168, ti x] ?_
  refine ⟨by omega, fun w => by omega, fun w => ?_⟩
  refine ⟨by omega, fun w2 => ?_, fun w2 => by omega⟩
  refine ⟨Or.inl rfl, ?_⟩
  obtain ⟨Q1, g1⟩ : ∃ Q1 : FM, Q1 = pq M 168 62 0 := ⟨_, rfl⟩
  have q62 : Q1 168 62 = 0 := by rw [g1, pq_at]
  have q61 : Q1 168 61 = p := by rw [g1, pq_ne _ _ _ _ (by decide), h1]
  have q1o : ∀ c : Nat, c ≠ 168 → Q1 c = M c := fun c hc => by rw [g1, pq_o _ _ _ hc]
  have T : (o_al 0 (o_get 12 62 62 (o_if .ne (b300_53 d (fW d kd300 K) K) (o_al 0 (o_get 12 60 60 (o_al 0 (o_get 12 61 61 (o_il 1 (o_i2b (o_bast (o_al 0 (o_dup (o_get 12 61 61 (o_ic 1 (o_iadd (o_put 12 61 61 (b300_53 d (fW d kd300 K) K)))))))))))))))) : FC) [some (fx 168), some (ti x)] [] (sh, Q1, nx, zl) := by
    refine ⟨by omega, fun w => by omega, fun _ => ?_⟩
    refine ⟨by omega, ?_⟩
    obtain ⟨Q2, g2⟩ : ∃ Q2 : FM, Q2 = pq Q1 212 (Q1 168 61) ((x + 128) % 256 - 128) := ⟨_, rfl⟩
    obtain ⟨Q3, g3⟩ : ∃ Q3 : FM, Q3 = pq Q2 168 61 (Q2 168 61 + 1) := ⟨_, rfl⟩
    have q3o : ∀ c : Nat, c ≠ 168 → c ≠ 212 → Q3 c = M c := fun c c1 c2 => by rw [g3, pq_o _ _ _ c1, g2, pq_o _ _ _ c2, q1o c c1]
    have q3n : ∀ i : Int, i ≠ 61 → i ≠ 62 → Q3 168 i = M 168 i := fun i i1 i2 => by rw [g3, pq_ne _ _ _ _ i1, g2, pq_o _ _ _ (by omega), g1, pq_ne _ _ _ _ i2]
    have q361 : Q3 168 61 = (p : Int) + 1 := by rw [g3, pq_at, g2, pq_o _ _ _ (by omega), q61]
    have q362 : Q3 168 62 = 0 := by rw [g3, pq_ne _ _ _ _ (by decide), g2, pq_o _ _ _ (by omega), q62]
    have el : (X.set p (x % 256)).length = X.length := List.length_set
    have F := k Q3 ⟨q3o, q3n⟩ ⟨⟨by rw [q361]; rfl, by omega, by omega, q362⟩, fun i y hi hy => ?_⟩
    · rw [g3, g2] at F
      exact F
    · rw [g3, pq_o _ _ _ (by omega), g2]
      by_cases e : i = p
      · rw [e, List.getElem?_set_self (by omega)] at hy
        rw [show ((i : Nat) : Int) = Q1 168 61 by omega, pq_at, show ((x + 128) % 256 - 128) % 256 = x % 256 by omega]
        exact Option.some.inj hy
      · rw [List.getElem?_set_ne (fun w => e w.symm)] at hy
        rw [pq_ne _ _ _ _ (by omega), q1o 212 (by omega)]
        exact h5 i y (by omega) hy
  rw [g1] at T
  exact T
theorem addN_H {v : Int} {n : Nat} {X H : List Int} (hv : -9223372036854775808 ≤ v ∧ v ≤ 9223372036854775807) (hn : n ≤ 8) (h : rbW M (ovL X 0 H) H.length) (hp : H.length + n ≤ X.length) (k : ∀ M2 : FM, adF M M2 → rbW M2 (ovL X 0 (H ++ leL v n)) (H ++ leL v n).length → K none (sh, M2, nx, zl)) : fm_Y (d + 2) 314 [.ref 168, .long (Int64.ofInt v), .int (Int32.ofInt n)] (sh, M, nx, zl) K := by
  refine m314 [fx 168, tj v, ti n] ?_
  have L : ∀ (N i : Nat) (M1 : FM), n - i < N → i ≤ n → adF M M1 → rbW M1 (ovL X 0 (H ++ leL v i)) (H ++ leL v i).length → fm_X (d + 1) kd314 3 [some (fx 168), some (tj v), none, some (ti n), some (ti i)] [] (sh, M1, nx, zl) K := by
    intro N
    induction N with
    | zero =>
      intro i M1 hN
      omega
    | succ N ih =>
      intro i M1 hN hi f1 h1
      refine s314_3 (d + 1) K _ _ _ ?_
      refine ⟨by omega, fun w => ?_, fun w => ?_⟩
      · have e : i = n := by omega
        rw [e] at h1
        exact k M1 f1 h1
      · refine ⟨⟨by omega, by omega, hv⟩, ?_⟩
        have l1 : (H ++ leL v i).length = H.length + i := by rw [List.length_append, leL_len]
        refine add_W h1 (by rw [ovL_len]; omega) (fun M2 f2 h2 => ?_)
        refine ih (i + 1) M2 (by omega) (by omega) (adF_t f1 f2) ?_
        rw [show ((8 : Int) * (i : Int)).toNat = 8 * i by omega] at h2
        have e := ovL_app (H ++ leL v i) [v / 2 ^ (8 * i) % 256] X 0
        rw [Nat.zero_add, List.append_assoc, ← leL_back] at e
        have h3 : rbW M2 (ovL (ovL X 0 (H ++ leL v i)) (H ++ leL v i).length [v / 2 ^ (8 * i) % 256]) ((H ++ leL v i).length + 1) := h2
        rw [e] at h3
        have l2 : (H ++ leL v (i + 1)).length = (H ++ leL v i).length + 1 := by
          rw [List.length_append, List.length_append, leL_len, leL_len]
          omega
        rw [l2]
        exact h3
  have F := L (n + 1) 0 M (by omega) (by omega) (adF_r M) (by show rbW M (ovL X 0 (H ++ [])) (H ++ []).length; rw [List.append_nil]; exact h)
  exact F
end MTABLES
