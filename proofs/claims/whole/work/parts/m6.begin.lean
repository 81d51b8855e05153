/-! FREEZING: the beginning; the class -/
/-- a row of pieces of which none is closed yet -/
def pz (M : FM) (q r b st n : Nat) (s : List Int) : Prop := rzO M r b n (some s) ∧ M q 2 = 0 ∧ M st 0 = 0
theorem pz_F {M M2 : FM} {q r b st n : Nat} {s : List Int} (h : pz M q r b st n s) (h1 : M2 q = M q) (h2 : M2 r = M r) (h3 : M2 b = M b) (h4 : M2 st = M st) : pz M2 q r b st n s := ⟨rzO_F h.1 h2 h3, by rw [h1]; exact h.2.1, by rw [h4]; exact h.2.2⟩
theorem rep_sl {f : Int → Int} : ∀ (n : Nat) (a : Int), (∀ i : Nat, i < n → f (a + i) % 256 = 0) → sl f a n = List.replicate n 0
  | 0, _, _ => rfl
  | n + 1, a, h => by
    have h0 := h 0 (by omega)
    rw [show a + ((0 : Nat) : Int) = a by omega] at h0
    show (f a % 256) :: sl f (a + 1) n = List.replicate (n + 1) 0
    rw [h0, rep_sl n (a + 1) (fun i hi => by
      have := h (i + 1) (by omega)
      rw [show a + 1 + (i : Int) = a + ((i + 1 : Nat) : Int) by omega]
      exact this)]
    rfl
section BEGIN
variable {d nx zl : Nat} {K : Option TV → FH → Prop} {sh : Nat → Option Shp} {M : FM} {q r b st n : Nat}
theorem pclear_O (hp : psS sh q r b st n) (k : ∀ M2 : FM, (∀ c : Nat, c ≠ q → c ≠ r → c ≠ st → M2 c = M c) → pz M2 q r b st n [] → K none (sh, M2, nx, zl)) : fm_Y (d + 2) 55 [.ref q] (sh, M, nx, zl) K := by
  obtain ⟨⟨h1, h2, h3⟩, ⟨⟨a1, a2⟩, ⟨b1, b2⟩, ⟨c1, c2⟩, ⟨e1, e2⟩⟩, ⟨n1, n2, n3, n4, n5, n6⟩, hn⟩ := hp
  refine m55 [gr q] ?_
  refine ⟨_, h1, ?_⟩
  refine ⟨⟨_, h2.1.1⟩, clear_O h2 (fun M1 f1 w1 => ?_)⟩
  refine ⟨_, ⟨by omega, h1, rfl⟩, ?_⟩
  refine ⟨_, h1, ?_⟩
  refine ⟨9, h3, ⟨by omega, by omega, by omega, by omega⟩, ?_⟩
  obtain ⟨Q1, g1⟩ : ∃ Q1 : FM, Q1 = pq M1 q 2 0 := ⟨_, rfl⟩
  obtain ⟨Q2, g2⟩ : ∃ Q2 : FM, Q2 = pq Q1 st 0 0 := ⟨_, rfl⟩
  have o : ∀ c : Nat, c ≠ q → c ≠ st → Q2 c = M1 c := fun c x1 x2 => by rw [g2, pq_o _ _ _ x2, g1, pq_o _ _ _ x1]
  have F := k Q2 (fun c x1 x2 x3 => by rw [o c x1 x3, f1 c x2]) ⟨rzO_F w1 (o r (by omega) (by omega)) (o b (by omega) (by omega)), by rw [g2, pq_o _ _ _ n3, g1, pq_at], by rw [g2, pq_at]⟩
  rw [g2, g1] at F
  exact F
theorem putZ_O {m : Nat} {ra rb rn : Nat} (hr : rowS sh ra rb rn) (h : rzO M ra rb rn (some [])) (hm : m ≤ rn) (k : ∀ M2 : FM, (∀ y : Nat, y ≠ ra → y ≠ rb → M2 y = M y) → rzO M2 ra rb rn (some (List.replicate m 0)) → K none (sh, M2, nx, zl)) : fm_Y (d + 2) 54 [.ref ra, .int (Int32.ofInt m)] (sh, M, nx, zl) K := by
  obtain ⟨h0, h1, h2, h3⟩ := h
  have e0 : M ra 1 = 0 := h1
  refine zerosG_Y hr (by omega) (by omega) (by omega) (fun M2 f2 w1 w2 w3 w4 => k M2 f2 ⟨by omega, ?_, ?_, by rw [w2]; exact h3⟩)
  · rw [List.length_replicate]
    omega
  · rw [List.length_replicate]
    refine rep_sl m 0 (fun i hi => ?_)
    have := w3 i (by omega) (by omega)
    rw [e0] at this
    rw [this]
    rfl
/-- what stands once freezing has begun -/
def bgS (M : FM) (lg op : Int) (ids : List Int) : Prop := ((M 18 16 = 2 ^ lg.toNat ∧ M 18 17 = op) ∧ rzO M 19 20 131072 (some (List.replicate 96 0)) ∧ rzO M 88 89 65552 (some []) ∧ rzO M 90 91 65536 (some []) ∧ rzO M 92 93 8064 (some [])) ∧ pz M 68 70 71 69 65536 [] ∧ pz M 72 74 75 73 65536 [] ∧ pz M 76 78 79 77 8192 [] ∧ pz M 80 82 83 81 16000 [] ∧ pz M 84 86 87 85 16000 (idB ids)
theorem bgS_F {M M2 : FM} {lg op : Int} {ids : List Int} (h : bgS M lg op ids) (h1 : ∀ c : Nat, (c = 19 ∨ c = 20 ∨ 68 ≤ c ∧ c ≤ 93) → M2 c = M c) (h2 : ∀ i : Int, i ≠ 2 → M2 18 i = M 18 i) : bgS M2 lg op ids := by
  obtain ⟨⟨⟨a1, a2⟩, a3, a4, a5, a6⟩, b1, b2, b3, b4, b5⟩ := h
  refine ⟨⟨⟨by rw [h2 16 (by decide)]; exact a1, by rw [h2 17 (by decide)]; exact a2⟩, rzO_F a3 (h1 19 (by omega)) (h1 20 (by omega)), rzO_F a4 (h1 88 (by omega)) (h1 89 (by omega)), rzO_F a5 (h1 90 (by omega)) (h1 91 (by omega)), rzO_F a6 (h1 92 (by omega)) (h1 93 (by omega))⟩, pz_F b1 (h1 68 (by omega)) (h1 70 (by omega)) (h1 71 (by omega)) (h1 69 (by omega)), pz_F b2 (h1 72 (by omega)) (h1 74 (by omega)) (h1 75 (by omega)) (h1 73 (by omega)), pz_F b3 (h1 76 (by omega)) (h1 78 (by omega)) (h1 79 (by omega)) (h1 77 (by omega)), pz_F b4 (h1 80 (by omega)) (h1 82 (by omega)) (h1 83 (by omega)) (h1 81 (by omega)), pz_F b5 (h1 84 (by omega)) (h1 86 (by omega)) (h1 87 (by omega)) (h1 85 (by omega))⟩
/-- what the beginning leaves -/
def bgF (sh : Nat → Option Shp) (M M2 : FM) : Prop := fzF sh M M2 ∧ (∀ (c : Nat) (i : Int), (c = 17 ∨ 265 ≤ c) → i ≠ 14 → i ≠ 15 → M2 c i = M c i)
theorem begin_Y {lg op : Int} (hT : treeR sh M) (hlg : 12 ≤ lg ∧ lg ≤ 16) (hop : 0 ≤ op ∧ op ≤ 15) (k : ∀ M2 : FM, bgF sh M M2 → bgS M2 lg op (idL M) → cnU M2 (nuL M) → (∀ x : Int, (0 ≤ x ∧ x < M 168 5) ∧ live M x → M2 (M 11 x).toNat 15 = -1) → K none (sh, M2, nx, zl)) : fm_Y (d + 5) 53 [.ref 18, .ref 8, .int (Int32.ofInt lg), .int (Int32.ofInt op)] (sh, M, nx, zl) K := by
  refine m53 [fx 18, fx 8, ti lg, ti op] ?_
  refine ⟨by omega, ?_⟩
  obtain ⟨Q1, g1⟩ : ∃ Q1 : FM, Q1 = pq M 18 16 (1 * 2 ^ lg.toNat) := ⟨_, rfl⟩
  obtain ⟨Q2, g2⟩ : ∃ Q2 : FM, Q2 = pq Q1 18 17 op := ⟨_, rfl⟩
  have q2o : ∀ c : Nat, c ≠ 18 → Q2 c = M c := fun c hc => by rw [g2, pq_o _ _ _ hc, g1, pq_o _ _ _ hc]
  have q16 : Q2 18 16 = 2 ^ lg.toNat := by rw [g2, pq_ne _ _ _ _ (by decide), g1, pq_at, Int.one_mul]
  have q17 : Q2 18 17 = op := by rw [g2, pq_at]
  have T : (o_al 0 (o_get 4 0 0 (o_callv (d + 4) 38 0 1 (o_al 0 (o_get 4 0 0 (o_ic 96 (o_callv (d + 4) 54 1 1 (o_al 0 (o_get 4 4 4 (o_callv (d + 4) 55 0 7 (o_al 0 (o_get 4 5 5 (o_callv (d + 4) 55 0 7 (o_al 0 (o_get 4 6 6 (o_callv (d + 4) 55 0 7 (o_al 0 (b53_50 (d + 4) (fW (d + 4) kd53 K) K))))))))))))))))) : FC) [some (fx 18), some (fx 8), some (ti lg), some (ti op), none] [] (sh, Q2, nx, zl) := by
    refine clear_O (row19 sh) (fun M1 f1 w1 => ?_)
    refine putZ_O (m := 96) (row19 sh) w1 (by omega) (fun M2 f2 w2 => ?_)
    refine pclear_O (ps68 sh) (fun M3 f3 w3 => ?_)
    refine pclear_O (ps72 sh) (fun M4 f4 w4 => ?_)
    refine pclear_O (ps76 sh) (fun M5 f5 w5 => ?_)
    refine pclear_O (ps80 sh) (fun M6 f6 w6 => ?_)
    refine pclear_O (ps84 sh) (fun M7 f7 w7 => ?_)
    refine clear_O (row88 sh) (fun M8 f8 w8 => ?_)
    refine clear_O (a := 90) (b := 91) (n := 65536) ⟨⟨rfl, rfl⟩, by decide, by decide, by decide, by decide⟩ (fun M9 f9 w9 => ?_)
    refine clear_O (a := 92) (b := 93) (n := 8064) ⟨⟨rfl, rfl⟩, by decide, by decide, by decide, by decide⟩ (fun MA fA wA => ?_)
    have FA : ∀ c : Nat, (c < 18 ∨ 93 < c ∨ 50 ≤ c ∧ c ≤ 63 ∨ c = 21) → MA c = M c := fun c hc => by
      rw [fA c (by omega), f9 c (by omega), f8 c (by omega), f7 c (by omega) (by omega) (by omega), f6 c (by omega) (by omega) (by omega), f5 c (by omega) (by omega) (by omega), f4 c (by omega) (by omega) (by omega), f3 c (by omega) (by omega) (by omega), f2 c (by omega) (by omega), f1 c (by omega), q2o c (by omega)]
    have F18 : MA 18 = Q2 18 := by
      rw [fA 18 (by omega), f9 18 (by omega), f8 18 (by omega), f7 18 (by omega) (by omega) (by omega), f6 18 (by omega) (by omega) (by omega), f5 18 (by omega) (by omega) (by omega), f4 18 (by omega) (by omega) (by omega), f3 18 (by omega) (by omega) (by omega), f2 18 (by omega) (by omega), f1 18 (by omega)]
    have ZA : fzF sh M MA := fzF_o (fun c hc => FA c (by omega))
    have SA : bgS MA lg op [] := by
      have S9 : ∀ c : Nat, c ≠ 90 → c ≠ 92 → MA c = M8 c := fun c x1 x2 => by rw [fA c x2, f9 c x1]
      have S7 : ∀ c : Nat, c ≠ 88 → c ≠ 90 → c ≠ 92 → MA c = M7 c := fun c x0 x1 x2 => by rw [S9 c x1 x2, f8 c x0]
      have S6 : ∀ c : Nat, c < 84 → MA c = M6 c := fun c x => by rw [S7 c (by omega) (by omega) (by omega), f7 c (by omega) (by omega) (by omega)]
      have S5 : ∀ c : Nat, c < 80 → MA c = M5 c := fun c x => by rw [S6 c (by omega), f6 c (by omega) (by omega) (by omega)]
      have S4 : ∀ c : Nat, c < 76 → MA c = M4 c := fun c x => by rw [S5 c (by omega), f5 c (by omega) (by omega) (by omega)]
      have S3 : ∀ c : Nat, c < 72 → MA c = M3 c := fun c x => by rw [S4 c (by omega), f4 c (by omega) (by omega) (by omega)]
      have S2 : ∀ c : Nat, c < 68 → MA c = M2 c := fun c x => by rw [S3 c (by omega), f3 c (by omega) (by omega) (by omega)]
      refine ⟨⟨⟨by rw [F18]; exact q16, by rw [F18]; exact q17⟩, rzO_F w2 (S2 19 (by omega)) (S2 20 (by omega)), rzO_F w8 (S9 88 (by omega) (by omega)) (S9 89 (by omega) (by omega)), rzO_F w9 (fA 90 (by omega)) (fA 91 (by omega)), wA⟩, pz_F w3 (S3 68 (by omega)) (S3 70 (by omega)) (S3 71 (by omega)) (S3 69 (by omega)), pz_F w4 (S4 72 (by omega)) (S4 74 (by omega)) (S4 75 (by omega)) (S4 73 (by omega)), pz_F w5 (S5 76 (by omega)) (S5 78 (by omega)) (S5 79 (by omega)) (S5 77 (by omega)), pz_F w6 (S6 80 (by omega)) (S6 82 (by omega)) (S6 83 (by omega)) (S6 81 (by omega)), ?_⟩
      exact pz_F w7 (S7 84 (by omega) (by omega) (by omega)) (S7 86 (by omega) (by omega) (by omega)) (S7 87 (by omega) (by omega) (by omega)) (S7 85 (by omega) (by omega) (by omega))
    refine numberNodes_Y (treeR_fz hT ZA) (fun MB fB UB RB => ?_)
    have a168 : MA 168 = M 168 := FA 168 (by omega)
    have a177 : MA 177 = M 177 := FA 177 (by omega)
    have a183 : MA 183 = M 183 := FA 183 (by omega)
    have a184 : MA 184 = M 184 := FA 184 (by omega)
    have eFe : ∀ x, fe MA x = fe M x := fun x => by unfold fe; rw [a168, a183]
    have eEc : ∀ x, ec MA x = ec M x := fun x => by unfold ec; rw [a168, a183]
    have eA : ∀ (L : List Int) (e : Int) (n : Nat), nuA MA L e n = nuA M L e n := by
      intro L e n
      induction n with
      | zero => rfl
      | succ n ih =>
        show (if MA 184 (e + n) ∈ nuA MA L e n then nuA MA L e n else nuA MA L e n ++ [MA 184 (e + n)]) = if M 184 (e + n) ∈ nuA M L e n then nuA M L e n else nuA M L e n ++ [M 184 (e + n)]
        rw [ih, a184]
    have eG : ∀ n : Nat, nuG MA n = nuG M n := by
      intro n
      induction n with
      | zero => rfl
      | succ n ih =>
        show (match (nuG MA n)[n]? with
          | none => nuG MA n
          | some x => nuA MA (nuG MA n) (fe MA x) (ec MA x)) = match (nuG M n)[n]? with
          | none => nuG M n
          | some x => nuA M (nuG M n) (fe M x) (ec M x)
        rw [ih]
        simp only [eA, eFe, eEc]
    have eL : nuL MA = nuL M := eG 2000
    rw [eL] at UB
    have LP : nuP M (nuL M) := nuG_P hT.1 2000
    have LL := nuP_len hT.1 LP
    have ZB : fzF sh M MB := fzF_t ZA (nzF_fz fB)
    have hOth : ∀ (c : Nat) (i : Int), (c = 17 ∨ 265 ≤ c) → i ≠ 14 → i ≠ 15 → MB c i = M c i := fun c i hc h1 h2 => by rw [fB.2.2 c i hc h1 h2, FA c (by omega)]
    have SB : bgS MB lg op [] := bgS_F SA (fun c hc => fB.1 c (by omega) (by omega) (by omega) (fun q => by omega)) fB.2.1
    have RB2 : ∀ x : Int, (0 ≤ x ∧ x < M 168 5) ∧ live M x → MB (M 11 x).toNat 15 = -1 := by
      intro x hx
      have := RB x ⟨by rw [a168]; exact hx.1, by unfold live; rw [a177]; exact hx.2⟩
      rw [FA 11 (by omega)] at this
      exact this
    -- ids
    have LOOP : ∀ (N j : Nat) (MC : FM), (nuL M).length - j < N → j ≤ (nuL M).length → (∀ c : Nat, c ≠ 86 → c ≠ 87 → MC c = MB c) → rzO MC 86 87 16000 (some (idB (idK M (nuL M) j))) → fm_X (d + 4) kd53 92 [some (fx 18), some (fx 8), some (ti lg), some (ti op), some (ti ((j : Int) + 1))] [] (sh, MC, nx, zl) K := by
      intro N
      induction N with
      | zero =>
        intro j MC hN
        omega
      | succ N ih =>
        intro j MC hN hj fC wC
        have u1 : MC 18 2 = (nuL M).length := by rw [fC 18 (by omega) (by omega)]; exact UB.1
        refine s53_92 (d + 4) K _ _ _ ?_
        refine ⟨by omega, fun w => ?_, fun w => ?_⟩
        · have e : j = (nuL M).length := by omega
          rw [e] at wC
          have ZC : fzF sh MB MC := fzF_o (fun c hc => fC c (by omega) (by omega))
          refine k MC ⟨fzF_t ZB ZC, fun c i hc h1 h2 => by rw [fC c (by omega) (by omega)]; exact hOth c i hc h1 h2⟩ ?_ ⟨?_, fun i x hx => ?_, fun x x0 x1 x2 x3 => ?_⟩ (fun x hx => ?_)
          · obtain ⟨⟨⟨a1, a2⟩, a3, a4, a5, a6⟩, b1, b2, b3, b4, b5⟩ := SB
            refine ⟨⟨⟨by rw [fC 18 (by omega) (by omega)]; exact a1, by rw [fC 18 (by omega) (by omega)]; exact a2⟩, rzO_F a3 (fC 19 (by omega) (by omega)) (fC 20 (by omega) (by omega)), rzO_F a4 (fC 88 (by omega) (by omega)) (fC 89 (by omega) (by omega)), rzO_F a5 (fC 90 (by omega) (by omega)) (fC 91 (by omega) (by omega)), rzO_F a6 (fC 92 (by omega) (by omega)) (fC 93 (by omega) (by omega))⟩, pz_F b1 (fC 68 (by omega) (by omega)) (fC 70 (by omega) (by omega)) (fC 71 (by omega) (by omega)) (fC 69 (by omega) (by omega)), pz_F b2 (fC 72 (by omega) (by omega)) (fC 74 (by omega) (by omega)) (fC 75 (by omega) (by omega)) (fC 73 (by omega) (by omega)), pz_F b3 (fC 76 (by omega) (by omega)) (fC 78 (by omega) (by omega)) (fC 79 (by omega) (by omega)) (fC 77 (by omega) (by omega)), pz_F b4 (fC 80 (by omega) (by omega)) (fC 82 (by omega) (by omega)) (fC 83 (by omega) (by omega)) (fC 81 (by omega) (by omega)), wC, ?_, ?_⟩
            · rw [fC 84 (by omega) (by omega)]
              exact b5.2.1
            · rw [fC 85 (by omega) (by omega)]
              exact b5.2.2
          · rw [fC 18 (by omega) (by omega)]
            exact UB.1
          · have xl := LP.2 x (List.mem_of_getElem? hx)
            obtain ⟨c, _, _, ec2, _, hc3, _⟩ := nd_of hT xl
            have := UB.2.1 i x hx
            rw [fB.1 11 (by omega) (by omega) (by omega) (fun q => by omega), FA 11 (by omega)] at this
            rw [fC 11 (by omega) (by omega), fB.1 11 (by omega) (by omega) (by omega) (fun q => by omega), FA 11 (by omega), fC 21 (by omega) (by omega), fC _ (by omega) (by omega)]
            exact this
          · rw [fC 168 (by omega) (by omega), fB.1 168 (by omega) (by omega) (by omega) (fun q => by omega), a168] at x1
            have lv : live M x := by
              unfold live at x2 ⊢
              rw [fC 177 (by omega) (by omega), fB.1 177 (by omega) (by omega) (by omega) (fun q => by omega), a177] at x2
              exact x2
            obtain ⟨c, _, _, ec2, _, hc3, _⟩ := nd_of hT ⟨⟨x0, x1⟩, lv⟩
            have := UB.2.2 x x0 (by rw [fB.1 168 (by omega) (by omega) (by omega) (fun q => by omega), a168]; exact x1) (by unfold live; rw [fB.1 177 (by omega) (by omega) (by omega) (fun q => by omega), a177]; exact lv) x3
            rw [fB.1 11 (by omega) (by omega) (by omega) (fun q => by omega), FA 11 (by omega)] at this
            rw [fC 11 (by omega) (by omega), fB.1 11 (by omega) (by omega) (by omega) (fun q => by omega), FA 11 (by omega), fC _ (by omega) (by omega)]
            exact this
          · obtain ⟨c, _, _, ec2, _, hc3, _⟩ := nd_of hT hx
            rw [fC _ (by omega) (by omega)]
            exact RB2 x hx
        · have hjl : j < (nuL M).length := by omega
          obtain ⟨x, hx⟩ : ∃ x, (nuL M)[j]? = some x := ⟨_, List.getElem?_eq_getElem hjl⟩
          have xl := LP.2 x (List.mem_of_getElem? hx)
          have nw := hT.1.1.2 x xl.1.1 xl.1.2
          obtain ⟨a, h9, t9, ea, hS, ha3, hE, -⟩ := nd_of hT xl
          have v := (UB.2.1 j x hx).1
          rw [fB.1 11 (by omega) (by omega) (by omega) (fun q => by omega), FA 11 (by omega), ea] at v
          have il := idK_len M (nuL M) j
          have ir := idK_rng hT.1 LP j
          have sl := nuX_len (idK M (nuL M) j) (M 173 x)
          have es := idK_s (M := M) hx
          have ow : MC a 6 = M 173 x := by
            rw [fC a (by omega) (by omega), hOth a 6 ha3 (by decide) (by decide)]
            exact hE.2.2.2.2.1
          have gr' : ∀ MD : FM, (∀ c : Nat, c ≠ 86 → c ≠ 87 → MD c = MB c) → MD a 7 = M 174 x := fun MD fD => by
            rw [fD a (by omega) (by omega), hOth a 7 ha3 (by decide) (by decide)]
            exact hE.2.2.2.2.2.1
          have vC : ∀ MD : FM, (∀ c : Nat, c ≠ 86 → c ≠ 87 → MD c = MB c) → MD 21 ((j : Int) + 1) = a := fun MD fD => by
            rw [fD 21 (by omega) (by omega)]
            exact v
          have v1 := vC MC fC
          refine ⟨by omega, fun m hm => ?_, fun hm => by omega⟩
          have em : m = a := by omega
          rw [em]
          refine ⟨_, hS, ?_⟩
          rw [ow]
          refine addId_Y wC ir nw.2.2.2.1 (by omega) (fun MD fD wD => ?_)
          have fD2 : ∀ c : Nat, c ≠ 86 → c ≠ 87 → MD c = MB c := fun c x1 x2 => (fD c x1 x2).trans (fC c x1 x2)
          have v2 := vC MD fD2
          refine ⟨by omega, fun m2 hm2 => ?_, fun hm2 => by omega⟩
          have em2 : m2 = a := by omega
          rw [em2]
          refine ⟨_, hS, ?_⟩
          rw [gr' MD fD2]
          refine addId_Y wD (fun y hy => ?_) nw.2.2.2.2.1 (by omega) (fun ME fE wE => ?_)
          · rcases nuX_mem.1 hy with z | z
            · exact ir y z
            · rw [z]
              exact nw.2.2.2.1
          · refine ih (j + 1) ME (by omega) (by omega) (fun c x1 x2 => (fE c x1 x2).trans (fD2 c x1 x2)) ?_
            rw [es]
            exact wE
    exact LOOP ((nuL M).length + 1) 0 MB (by omega) (by omega) (fun _ _ _ => rfl) SB.2.2.2.2.2.1
  rw [g2, g1] at T
  exact T
end BEGIN
