/-! PACKING: a whole row; the reference -/
/-- the parts from b on, behind the bits B -/
def pgG (f : Int → Int) (a n : Int) : Nat → List Int → Int → List Int
  | 0, B, _ => B
  | g + 1, B, b => if b + 4096 < n then pgG f a n g (ptS B f a b (b + 4096) 0) (b + 4096) else ptS B f a b n 1
def pkB (f : Int → Int) (a n : Int) : List Int := pgG f a n 17 (nbL 120 8 ++ nbL 156 8) 0
/-- a check, the highest byte first -/
def ckL (v : Int) : List Int := nbL (v / 16777216 % 256) 8 ++ nbL (v / 65536 % 256) 8 ++ nbL (v / 256 % 256) 8 ++ nbL (v % 256) 8
/-- the bits of a packed row -/
def pkS (f : Int → Int) (a n : Int) : List Int := padB (pkB f a n) ++ ckL (adV (sl f a n.toNat))
theorem stT_b {n : Nat} {l : Int} : stT n l ≤ 42 + 8 * l ∧ 35 + 8 * l ≤ stT n l := by
  unfold stT
  omega
theorem pgG_len {f : Int → Int} {a n : Int} : ∀ (g : Nat) (B : List Int) (b : Int), 0 ≤ b → b ≤ n → n - b ≤ 4096 * g → (B.length : Int) ≤ (pgG f a n g B b).length ∧ ((pgG f a n g B b).length : Int) ≤ B.length + 42 * g + 8 * (n - b)
  | 0, B, b, h0, h1, h2 => by
    show (B.length : Int) ≤ B.length ∧ (B.length : Int) ≤ B.length + 42 * ((0 : Nat) : Int) + 8 * (n - b)
    omega
  | g + 1, B, b, h0, h1, h2 => by
    unfold pgG
    by_cases c : b + 4096 < n
    · rw [if_pos c]
      have p := ptS_len (T := tkS f a b (b + 4096)) (tkS_ok h0) (B := B) (last := 0) rfl (by omega)
      have s := stT_b (n := B.length) (l := b + 4096 - b)
      have ih := pgG_len (f := f) (a := a) (n := n) g (ptS B f a b (b + 4096) 0) (b + 4096) (by omega) (by omega) (by omega)
      omega
    · rw [if_neg c]
      have p := ptS_len (T := tkS f a b n) (tkS_ok h0) (B := B) (last := 1) rfl (by omega)
      have s := stT_b (n := B.length) (l := n - b)
      omega
theorem pkB_len {f : Int → Int} {a n : Int} (hn : 0 ≤ n ∧ n ≤ 65536) : 16 ≤ (pkB f a n).length ∧ (pkB f a n).length ≤ 525100 := by
  have := pgG_len (f := f) (a := a) (n := n) 17 (nbL 120 8 ++ nbL 156 8) 0 (by omega) (by omega) (by omega)
  rw [List.length_append, nbL_len, nbL_len] at this
  unfold pkB
  omega
theorem padB_len (B : List Int) : (padB B).length % 8 = 0 ∧ B.length ≤ (padB B).length ∧ (padB B).length ≤ B.length + 7 := by
  unfold padB
  rw [List.length_append, List.length_replicate]
  omega
theorem ckL_len (v : Int) : (ckL v).length = 32 := by
  unfold ckL
  rw [List.length_append, List.length_append, List.length_append, nbL_len, nbL_len, nbL_len, nbL_len]
section MPACK
variable {d nx zl : Nat} {K : Option TV → FH → Prop} {sh : Nat → Option Shp} {M : FM} {c nc : Nat} {a n : Int} {f : Int → Int}
theorem mcheck_Y {p : Int} (ha : shp sh c = some (.inl (.byte, nc))) (hna : nc ≤ 131072) (hp : 0 ≤ p) (hn : 0 ≤ n) (hpn : p + n ≤ nc) (k : K (some (tj (adV (sl (M c) p n.toNat)))) (sh, M, nx, zl)) : fm_Y (d + 1) 299 [.ref c, .int (Int32.ofInt p), .int (Int32.ofInt n)] (sh, M, nx, zl) K := by
  refine m299 [gr c, ti p, ti n] ?_
  have L : ∀ (N j : Nat) (ji : Int), n.toNat - j < N → j ≤ n.toNat → ji = p + j → fm_X d kd299 8 [some (gr c), some (ti p), some (ti n), some (tj (ad (sl (M c) p j)).1), none, some (tj (ad (sl (M c) p j)).2), none, some (ti ji)] [] (sh, M, nx, zl) K := by
    intro N
    induction N with
    | zero => intro j ji h1; omega
    | succ N ih =>
      intro j ji h1 h2 h3
      have r := ad_rng (sl (M c) p j)
      refine s299_8 d K _ _ _ ?_
      refine ⟨by omega, fun w => ?_, fun w => ?_⟩
      · have ej : j = n.toNat := by omega
        subst ej
        unfold adV at k
        rw [Int.mul_comm] at k
        exact k
      · refine ⟨nc, ha, by omega, ?_⟩
        refine ⟨by omega, ?_⟩
        refine ⟨by omega, ?_⟩
        refine ⟨by omega, ?_⟩
        have z := ih (j + 1) (ji + 1) (by omega) (by omega) (by omega)
        have e : ad (sl (M c) p (j + 1)) = adS (ad (sl (M c) p j)) (M c (p + j) % 256) := by rw [sl_back, ad_back]
        rw [e, ← h3] at z
        exact z
  exact L (n.toNat + 1) 0 p (by omega) (by omega) (by omega)
/-- what packing leaves, the reference -/
def pmF (M M2 : FM) : Prop := (∀ x : Nat, (x < 168 ∨ 203 < x ∨ (168 < x ∧ x < 188)) → M2 x = M x) ∧ ∀ i : Int, i ≠ 28 → i ≠ 31 → i ≠ 42 → M2 168 i = M 168 i
theorem mpack_Y (hs : shp sh c = some (.inl (.byte, nc))) (hnc : nc ≤ 131072) (hc : c < 168 ∨ 203 < c ∨ (168 < c ∧ c < 188)) (hf : M c = f) (hn : 0 ≤ n ∧ n ≤ 65536) (ha : 0 ≤ a ∧ a + n ≤ nc)
    (k : ∀ M2 : FM, pmF M M2 → wbV M2 (pkS f a n) → K (some (ti ((pkS f a n).length / 8 : Nat))) (sh, M2, nx, zl)) : fm_Y (d + 18) 271 [.ref 168, .ref c, .int (Int32.ofInt a), .int (Int32.ofInt n)] (sh, M, nx, zl) K := by
  have bl := pkB_len (f := f) (a := a) hn
  refine m271 [fx 168, gr c, ti a, ti n] ?_
  refine notePairs_Y hs hnc (by omega) ha hn (fun M1 F1 ch => ?_)
  rw [hf] at ch
  obtain ⟨P, gP⟩ : ∃ P : FM, P = pq M1 168 28 0 := ⟨_, rfl⟩
  have oP : ∀ x : Nat, x ≠ 168 → P x = M1 x := fun x hx => by rw [gP, pq_o _ _ _ hx]
  have FP : pmF M P := ⟨fun x hx => by rw [oP x (by omega), F1 x (by omega) (by omega)], fun i i1 _ _ => by rw [gP, pq_ne _ _ _ _ i1, F1 168 (by omega) (by omega)]⟩
  have chP : ∀ t : Int, 0 ≤ t → t + 1 < n → lsP (fun t => pkP f (a + t)) t (pkP f (a + t)) (P 189 t) := by
    rw [oP 189 (by omega)]
    exact ch
  have bP : wbV P [] := ⟨⟨by rw [gP, pq_at]; rfl, fun x hx => by cases hx⟩, fun i hi => absurd hi (by rw [List.length_nil]; omega)⟩
  have fP : P c = f := by rw [FP.1 c (by omega)]; exact hf
  have T1 : (o_al 0 (o_ic 120 (o_ic 8 (o_callv (d + 17) 273 2 12 (o_al 0 (o_ic 156 (o_ic 8 (o_callv (d + 17) 273 2 12 (o_ic 0 (o_is 4 (o_ic 0 (o_is 5 (fW (d + 17) kd271 K 35)))))))))))) : FC) [some (fx 168), some (gr c), some (ti a), some (ti n), none, none, none, none, none] [] (sh, P, nx, zl) := by
    refine writeNumber_Y (n := 8) bP (by omega) (by omega) (by rw [List.length_nil]; omega) (fun M2 F2 b2 => ?_)
    refine writeNumber_Y (n := 8) b2 (by omega) (by omega) (by rw [List.length_append, nbL_len, List.length_nil]; omega) (fun M3 F3 b3 => ?_)
    rw [List.nil_append] at b3
    have FB : ppF P M3 := ppF_b (wtF_w (wtF_b F2) F3)
    -- behind the parts
    have E35 : ∀ (M4 : FM) (bi ei : Int), ppF P M4 → wbV M4 (pkB f a n) → (o_al 0 (o_callv (d + 17) 294 0 12 (o_al 1 (o_il 2 (o_il 3 (o_calls (d + 17) 299 3 (o_ls 6 (o_ic 24 (o_is 8 (fW (d + 17) kd271 K 110))))))))) : FC) [some (fx 168), some (gr c), some (ti a), some (ti n), some (ti bi), some (ti 1), some (ti ei), none, none] [] (sh, M4, nx, zl) := by
      intro M4 bi ei F4 b4
      refine endByte_Y b4 (by omega) (fun M5 F5 b5 => ?_)
      have pl := padB_len (pkB f a n)
      have F15 : ppF P M5 := ppF_t F4 (ppF_b (wtF_b F5))
      have e5 : M5 c = f := by rw [F15.1 c (by omega)]; exact fP
      refine mcheck_Y hs hnc ha.1 hn.1 ha.2 ?_
      rw [e5]
      obtain ⟨v, gv⟩ : ∃ v : Int, v = adV (sl f a n.toNat) := ⟨_, rfl⟩
      have vr : 0 ≤ v ∧ v < 4294967296 := by
        have := ad_rng (sl f a n.toNat)
        rw [gv]
        unfold adV
        omega
      have eS : pkS f a n = padB (pkB f a n) ++ ckL v := by rw [gv]; rfl
      rw [← gv]
      -- one byte of the check
      have ST : ∀ (M6 : FM) (pre : List Int) (ki : Int) (sft : Nat), ki = sft → sft ≤ 24 → pre.length + 8 ≤ 528000 → wbV M6 pre → (∀ M7 : FM, wbF M6 M7 → wbV M7 (pre ++ nbL (v / 2 ^ sft % 256) 8) → fm_X (d + 17) kd271 110 [some (fx 168), some (gr c), some (ti a), some (ti n), some (ti bi), some (ti 1), some (tj v), none, some (ti (ki + -8))] [] (sh, M7, nx, zl) K) → fm_X (d + 17) kd271 110 [some (fx 168), some (gr c), some (ti a), some (ti n), some (ti bi), some (ti 1), some (tj v), none, some (ti ki)] [] (sh, M6, nx, zl) K := by
        intro M6 pre ki sft h1 h2 h3 b6 kk
        refine s271_110 (d + 17) K _ _ _ ?_
        refine ⟨by omega, fun z => by omega, fun _ => ?_⟩
        refine ⟨by omega, ?_⟩
        rw [show ki.toNat = sft by omega]
        exact writeNumber_Y (n := 8) b6 (by omega) (by omega) h3 kk
      show fm_X (d + 17) kd271 110 [some (fx 168), some (gr c), some (ti a), some (ti n), some (ti bi), some (ti 1), some (tj v), none, some (ti 24)] [] (sh, M5, nx, zl) K
      refine ST M5 _ 24 24 rfl (by omega) (by omega) b5 (fun M6 F6 b6 => ?_)
      refine ST M6 _ _ 16 rfl (by omega) (by rw [List.length_append, nbL_len]; omega) b6 (fun M7 F7 b7 => ?_)
      refine ST M7 _ _ 8 rfl (by omega) (by rw [List.length_append, List.length_append, nbL_len, nbL_len]; omega) b7 (fun M8 F8 b8 => ?_)
      refine ST M8 _ _ 0 rfl (by omega) (by rw [List.length_append, List.length_append, List.length_append, nbL_len, nbL_len, nbL_len]; omega) b8 (fun M9 F9 b9 => ?_)
      have eL : padB (pkB f a n) ++ nbL (v / 2 ^ 24 % 256) 8 ++ nbL (v / 2 ^ 16 % 256) 8 ++ nbL (v / 2 ^ 8 % 256) 8 ++ nbL (v / 2 ^ 0 % 256) 8 = pkS f a n := by
        rw [eS]
        unfold ckL
        rw [show (2 : Int) ^ 24 = 16777216 from rfl, show (2 : Int) ^ 16 = 65536 from rfl, show (2 : Int) ^ 8 = 256 from rfl, show (2 : Int) ^ 0 = 1 from rfl, Int.ediv_one]
        simp only [List.append_assoc]
      rw [eL] at b9
      have e28 := b9.1.1
      refine s271_110 (d + 17) K _ _ _ ?_
      refine ⟨by omega, fun _ => ?_, fun z => by omega⟩
      have lS : (pkS f a n).length ≤ 528000 := by
        rw [eS, List.length_append, ckL_len]
        omega
      refine ⟨by omega, ?_⟩
      rw [e28, show ((pkS f a n).length : Int) / 8 = (((pkS f a n).length / 8 : Nat) : Int) by omega]
      have W : wtF M5 M9 := wtF_w (wtF_w (wtF_w (wtF_b F6) F7) F8) F9
      have F19 : ppF P M9 := ppF_t F15 (ppF_b W)
      exact k M9 ⟨fun x hx => by rw [F19.1 x (by omega), FP.1 x hx], fun i i1 i2 i3 => by rw [F19.2 i i1 i2 i3, FP.2 i i1 i2 i3]⟩ b9
    have L35 : ∀ (g : Nat) (bi : Int) (Bs : List Int) (M4 : FM) (y6 : Option TV), 1 ≤ g → 0 ≤ bi → bi ≤ n → n - bi ≤ 4096 * g → Bs.length + 42 * g + 8 * (n - bi) ≤ 525100 → ppF P M4 → wbV M4 Bs → pgG f a n g Bs bi = pkB f a n → fm_X (d + 17) kd271 35 [some (fx 168), some (gr c), some (ti a), some (ti n), some (ti bi), some (ti 0), y6, none, none] [] (sh, M4, nx, zl) K := by
      intro g
      induction g with
      | zero => intro bi Bs M4 y6 z; omega
      | succ g ih =>
        intro bi Bs M4 y6 h0 h1 h2 h3 h5 F4 b4 e
        have eG : pgG f a n (g + 1) Bs bi = if bi + 4096 < n then pgG f a n g (ptS Bs f a bi (bi + 4096) 0) (bi + 4096) else ptS Bs f a bi n 1 := rfl
        rw [eG] at e
        have f4 : M4 c = f := by rw [F4.1 c (by omega)]; exact fP
        have ch4 : ∀ t : Int, 0 ≤ t → t + 1 < n → lsP (fun t => pkP f (a + t)) t (pkP f (a + t)) (M4 189 t) := by
          rw [F4.1 189 (by omega)]
          exact chP
        refine s271_35 (d + 17) K _ _ _ ?_
        refine ⟨by omega, fun z => by omega, fun _ => ?_⟩
        refine ⟨by omega, fun u => ?_, fun u => ?_⟩
        · -- the last part
          rw [if_neg (by omega)] at e
          have s := stT_b (n := Bs.length) (l := n - bi)
          refine ⟨by omega, fun z => by omega, fun _ => ?_⟩
          refine packPart_Y (B := Bs) hs hnc hc f4 ha (by omega) ch4 (Or.inr rfl) b4 (by omega) (fun M5 F5 b5 => ?_)
          rw [e] at b5
          refine s271_35 (d + 17) K _ _ _ ?_
          refine ⟨by omega, fun _ => ?_, fun z => by omega⟩
          exact E35 M5 n n (ppF_t F4 F5) b5
        · rw [if_pos (by omega)] at e
          have s := stT_b (n := Bs.length) (l := bi + 4096 - bi)
          refine ⟨by omega, fun _ => ?_, fun z => by omega⟩
          refine packPart_Y (n := n) (B := Bs) hs hnc hc f4 (by omega) (by omega) ch4 (Or.inl rfl) b4 (by omega) (fun M5 F5 b5 => ?_)
          have p := ptS_len (T := tkS f a bi (bi + 4096)) (tkS_ok h1) (B := Bs) (last := 0) rfl (by omega)
          exact ih (bi + 4096) _ M5 _ (by omega) (by omega) (by omega) (by omega) (by omega) (ppF_t F4 F5) b5 e
    exact L35 17 0 _ M3 none (by omega) (by omega) (by omega) (by omega) (by rw [List.length_append, nbL_len, nbL_len]; omega) FB b3 rfl
  rw [gP] at T1
  exact T1
end MPACK
