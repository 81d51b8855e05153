/-! FREEZING: data; the reference: fragments, blocks -/
/-- the reference's data -/
def daM (M : FM) (s : DS) : Prop := rbO M (some (dI s)) ∧ (M 168 76 = (dB s).length ∧ ∀ (i : Nat) (b : Int), (dB s)[i]? = some b → M 222 i = b) ∧ (M 168 82 = (dF s).length ∧ sl (M 225) 0 (dF s).length = dF s) ∧ (M 168 78 = (dT s).length ∧ ∀ (i : Nat) (t : Int × Int), (dT s)[i]? = some t → M 223 i = t.1 ∧ M 224 i = t.2)
theorem daM_F {M M2 : FM} {s : DS} (h : daM M s) (h1 : ∀ c : Nat, (c = 212 ∨ 222 ≤ c ∧ c ≤ 225) → M2 c = M c) (h2 : ∀ i : Int, (i = 61 ∨ i = 62 ∨ i = 76 ∨ i = 78 ∨ i = 82) → M2 168 i = M 168 i) : daM M2 s := by
  unfold daM at *
  rw [h1 222 (by omega), h1 223 (by omega), h1 224 (by omega), h1 225 (by omega), h2 76 (by omega), h2 78 (by omega), h2 82 (by omega)]
  exact ⟨rbO_F h.1 (h2 61 (by omega)) (h2 62 (by omega)) (h1 212 (by omega)), h.2⟩
/-- what the reference keeps of a node -/
def naM (M : FM) (g : Int → Int → Int) (y : Int) : Prop := M 216 y = g 0 y ∧ M 217 y = g 4 y ∧ M 218 y = g 5 y ∧ M 219 y = g 1 y ∧ M 220 y = g 2 y ∧ M 221 y = g 3 y
/-- what putting a file's data leaves -/
def mdaF (M M2 : FM) (x : Int) : Prop := (∀ c : Nat, c ≠ 168 → c ≠ 212 → (c < 188 ∨ 203 < c) → (c < 216 ∨ 225 < c) → M2 c = M c) ∧ (∀ i : Int, (i < 28 ∨ 62 < i ∨ i = 59) → i ≠ 76 → i ≠ 78 → i ≠ 82 → M2 168 i = M 168 i) ∧ ∀ (c : Nat) (y : Int), (216 ≤ c ∧ c ≤ 221) → y ≠ x → M2 c y = M c y
theorem mdaF_r (M : FM) (x : Int) : mdaF M M x := ⟨fun _ _ _ _ _ => rfl, fun _ _ _ _ _ => rfl, fun _ _ _ _ => rfl⟩
theorem mdaF_t {M M2 M3 : FM} {x : Int} (h : mdaF M M2 x) (g : mdaF M2 M3 x) : mdaF M M3 x := ⟨fun c h1 h2 h3 h4 => (g.1 c h1 h2 h3 h4).trans (h.1 c h1 h2 h3 h4), fun i h1 h2 h3 h4 => (g.2.1 i h1 h2 h3 h4).trans (h.2.1 i h1 h2 h3 h4), fun c y h1 h2 => (g.2.2 c y h1 h2).trans (h.2.2 c y h1 h2)⟩
/-- what closing a fragment leaves -/
def mcF (M M2 : FM) : Prop := (∀ c : Nat, c ≠ 168 → c ≠ 212 → (c < 188 ∨ 203 < c) → c ≠ 223 → c ≠ 224 → M2 c = M c) ∧ ∀ i : Int, (i < 28 ∨ 62 < i ∨ i = 59) → i ≠ 78 → i ≠ 82 → M2 168 i = M 168 i
theorem mcF_da {M M2 : FM} (x : Int) (h : mcF M M2) : mdaF M M2 x := ⟨fun c h1 h2 h3 h4 => h.1 c h1 h2 h3 (by omega) (by omega), fun i h1 _ h3 h4 => h.2 i h1 h3 h4, fun c y hc _ => by rw [h.1 c (by omega) (by omega) (by omega) (by omega) (by omega)]⟩
section MDATA2
variable {d nx zl : Nat} {K : Option TV → FH → Prop} {sh : Nat → Option Shp} {M : FM} {op : Int} {B : Nat} {s : DS}
theorem mcloseFragment_Y (hop : 0 ≤ op ∧ op ≤ 15) (h69 : M 168 69 = op) (hD : daM M s) (hI : ((dI s).length : Int) + (dF s).length ≤ 131072) (hf : (dF s).length ≤ 65536) (ht : (dT s).length ≤ 1000) (k : ∀ M2 : FM, mcF M M2 → daM M2 (clD op s) → K none (sh, M2, nx, zl)) : fm_Y (d + 20) 301 [.ref 168] (sh, M, nx, zl) K := by
  obtain ⟨D1, ⟨D2, D3⟩, ⟨D4, D5⟩, D6, D7⟩ := id hD
  have e61 : M 168 61 = (dI s).length := D1.2.1
  refine m301 [fx 168] ?_
  refine ⟨by omega, fun w => ?_, fun w => ?_⟩
  · have e : clD op s = s := if_pos (List.length_eq_zero_iff.1 (by omega))
    refine k M ⟨fun _ _ _ _ _ _ => rfl, fun _ _ _ _ => rfl⟩ ?_
    rw [e]
    exact hD
  · have ne : dF s ≠ [] := fun q => by
      rw [q] at D4
      have : M 168 82 = 0 := D4
      omega
    have e : clD op s = (dI s ++ (stB op (dF s)).1, dB s, [], dT s ++ [(((dI s).length : Int), (stB op (dF s)).2)], dN s) := if_neg ne
    have sl2 := stB_len op (dF s)
    have sn := stB_num op (dF s) hf
    refine ⟨by omega, ?_⟩
    obtain ⟨Q1, g1⟩ : ∃ Q1 : FM, Q1 = pq M 223 (M 168 78) (M 168 61) := ⟨_, rfl⟩
    have q1o : ∀ c : Nat, c ≠ 223 → Q1 c = M c := fun c hc => by rw [g1, pq_o _ _ _ hc]
    have q168 : Q1 168 = M 168 := q1o 168 (by omega)
    have T : (o_al 0 (o_get 12 80 80 (o_al 0 (o_get 12 78 78 (o_al 0 (o_al 0 (o_get 12 81 81 (o_ic 0 (o_al 0 (o_get 12 82 82 (o_callv (d + 19) 270 3 12 (o_iast (o_al 0 (o_dup (o_get 12 78 78 (b301_47 (d + 19) (fW (d + 19) kd301 K) K))))))))))))))) : FC) [some (fx 168)] [] (sh, Q1, nx, zl) := by
      refine store_Y (c := 225) (nc := 65536) (X := dF s) rfl (by omega) (by omega) (by omega) (by rw [q168, D4]; omega) (by rw [q168, D4]; omega) (by rw [q168, D4, Int.toNat_natCast, q1o 225 (by omega)]; exact D5) hop (by rw [q168]; exact h69) (rbO_F D1 (by rw [q168]) (by rw [q168]) (q1o 212 (by omega))) (fun M2 f2 w2 => ?_)
      rw [apO_fit (by omega)] at w2
      have e78 : M2 168 78 = (dT s).length := by
        rw [f2.2 78 (by decide) (by decide) (by decide) (by decide) (by decide), q168]
        exact D6
      refine ⟨by rw [q168, D6]; omega, ?_⟩
      obtain ⟨Q3, g3⟩ : ∃ Q3 : FM, Q3 = pq M2 224 (Q1 168 78) (stB op (dF s)).2 := ⟨_, rfl⟩
      obtain ⟨Q4, g4⟩ : ∃ Q4 : FM, Q4 = pq Q3 168 78 (Q3 168 78 + 1) := ⟨_, rfl⟩
      obtain ⟨Q5, g5⟩ : ∃ Q5 : FM, Q5 = pq Q4 168 82 0 := ⟨_, rfl⟩
      have o : ∀ c : Nat, c ≠ 168 → c ≠ 224 → Q5 c = M2 c := fun c c1 c2 => by rw [g5, pq_o _ _ _ c1, g4, pq_o _ _ _ c1, g3, pq_o _ _ _ c2]
      have n : ∀ i : Int, i ≠ 78 → i ≠ 82 → Q5 168 i = M2 168 i := fun i i1 i2 => by rw [g5, pq_ne _ _ _ _ i2, g4, pq_ne _ _ _ _ i1, g3, pq_o _ _ _ (by omega)]
      have n78 : Q5 168 78 = (dT s).length + 1 := by rw [g5, pq_ne _ _ _ _ (by decide), g4, pq_at, g3, pq_o _ _ _ (by omega), e78]
      have F := k Q5 ⟨fun c c1 c2 c3 c4 c5 => by rw [o c c1 c5, f2.1 c c1 c2 c3, q1o c c4], fun i i1 i2 i3 => by rw [n i i2 i3, f2.2 i (by omega) (by omega) (by omega) (by omega) (by omega), q168]⟩ (by
        rw [e]
        refine ⟨?_, ⟨?_, ?_⟩, ⟨?_, rfl⟩, ?_, ?_⟩
        · exact rbO_F w2 (n 61 (by decide) (by decide)) (n 62 (by decide) (by decide)) (o 212 (by omega) (by omega))
        · show Q5 168 76 = (dB s).length
          rw [n 76 (by decide) (by decide), f2.2 76 (by decide) (by decide) (by decide) (by decide) (by decide), q168]
          exact D2
        · intro i b hb
          rw [o 222 (by omega) (by omega), f2.1 222 (by omega) (by omega) (by omega), q1o 222 (by omega)]
          exact D3 i b hb
        · show Q5 168 82 = ((0 : Nat) : Int)
          rw [g5, pq_at]
          rfl
        · show Q5 168 78 = ((dT s ++ [(((dI s).length : Int), (stB op (dF s)).2)]).length : Nat)
          rw [n78, List.length_append]
          rfl
        · intro i t hh
          have hh2 : (dT s ++ [(((dI s).length : Int), (stB op (dF s)).2)])[i]? = some t := hh
          rw [apG] at hh2
          have e24 : Q5 224 = Q3 224 := by rw [g5, pq_o _ _ _ (by omega), g4, pq_o _ _ _ (by omega)]
          have e23 : Q5 223 = Q1 223 := by rw [o 223 (by omega) (by omega), f2.1 223 (by omega) (by omega) (by omega)]
          rw [e24, e23]
          by_cases ci : i < (dT s).length
          · rw [if_pos ci] at hh2
            rw [g3, pq_ne _ _ _ _ (by rw [q168, D6]; omega), f2.1 224 (by omega) (by omega) (by omega), q1o 224 (by omega), g1, pq_ne _ _ _ _ (by rw [D6]; omega)]
            exact D7 i t hh2
          · rw [if_neg ci] at hh2
            by_cases ci2 : i = (dT s).length
            · rw [if_pos ci2] at hh2
              injection hh2 with hh2
              rw [← hh2, ci2, g3, q168, D6, pq_at, g1, D6, pq_at, e61]
              exact ⟨rfl, rfl⟩
            · rw [if_neg ci2] at hh2
              cases hh2)
      rw [g5, g4, g3] at F
      exact F
    rw [g1] at T
    exact T
theorem mputBlock_Y {x p n : Int} {X : List Int} (hx : 0 ≤ x ∧ x < 2000) (hop : 0 ≤ op ∧ op ≤ 15) (h69 : M 168 69 = op) (hp : 0 ≤ p) (hn : 1 ≤ n ∧ n ≤ 65536) (hpn : p + n ≤ 65536) (hX : sl (M 181) p n.toNat = X) (hD : daM M s) (hI : ((dI s).length : Int) + n ≤ 131072) (hb : (dB s).length < 2100) (h2 : M 220 x = dN s 2 x ∧ M 221 x = dN s 3 x)
    (k : ∀ M2 : FM, mdaF M M2 x → daM M2 (pbD op s x X) → M2 220 x = dN (pbD op s x X) 2 x → M2 221 x = dN (pbD op s x X) 3 x → (∀ c : Nat, 216 ≤ c → c ≤ 219 → M2 c = M c) → K none (sh, M2, nx, zl)) : fm_Y (d + 20) 269 [.ref 168, .int (Int32.ofInt x), .int (Int32.ofInt p), .int (Int32.ofInt n)] (sh, M, nx, zl) K := by
  have xl : (X.length : Int) = n := by
    rw [← hX, sl_len]
    omega
  obtain ⟨D1, ⟨D2, D3⟩, ⟨D4, D5⟩, D6, D7⟩ := id hD
  refine m269 [fx 168, ti x, ti p, ti n] ?_
  have B42 : ∀ (z i : Int), (z = 1 ∧ X = List.replicate X.length 0 ∨ z = 0 ∧ X ≠ List.replicate X.length 0) → b269_42 (d + 19) (fW (d + 19) kd269 K) K [some (fx 168), some (ti x), some (ti p), some (ti n), some (ti z), some (ti i)] [] (sh, M, nx, zl) := by
    intro z i hz
    -- behind the block number
    have B97 : ∀ (v zv : Int) (M1 : FM), v = (if X = List.replicate X.length 0 then 0 else (stB op X).2) → zv = dN s 3 x + (if X = List.replicate X.length 0 then (X.length : Int) else 0) → mdaF M M1 x → (∀ c : Nat, 216 ≤ c → c ≤ 220 → M1 c = M c) → M1 221 x = zv → rbO M1 (some (if X = List.replicate X.length 0 then dI s else dI s ++ (stB op X).1)) → M1 168 76 = (dB s).length → M1 168 78 = M 168 78 → M1 168 82 = M 168 82 → (∀ c : Nat, 222 ≤ c → c ≤ 225 → M1 c = M c) → b269_97 (d + 19) (fW (d + 19) kd269 K) K [some (fx 168), some (ti x), some (ti p), some (ti n), some (ti z), some (ti i)] [ti v, ti ((dB s).length : Int), fx 222] (sh, M1, nx, zl) := by
      intro v zv M1 hv hzv f1 f2 e221 w1 e76 e78 e82 f3
      refine ⟨by omega, ?_⟩
      obtain ⟨Q2, g2⟩ : ∃ Q2 : FM, Q2 = pq M1 222 ((dB s).length : Int) v := ⟨_, rfl⟩
      obtain ⟨Q3, g3⟩ : ∃ Q3 : FM, Q3 = pq Q2 168 76 (Q2 168 76 + 1) := ⟨_, rfl⟩
      have q3o : ∀ c : Nat, c ≠ 168 → c ≠ 222 → Q3 c = M1 c := fun c c1 c2 => by rw [g3, pq_o _ _ _ c1, g2, pq_o _ _ _ c2]
      have T : (o_al 0 (o_get 12 74 74 (o_il 1 (o_dup2 (o_iald (o_ic 1 (o_iadd (o_iast (o_ret K)))))))) : FC) [some (fx 168), some (ti x), some (ti p), some (ti n), some (ti z), some (ti i)] [] (sh, Q3, nx, zl) := by
        refine ⟨by omega, ?_⟩
        refine ⟨by omega, ?_⟩
        obtain ⟨Q4, g4⟩ : ∃ Q4 : FM, Q4 = pq Q3 220 x (Q3 220 x + 1) := ⟨_, rfl⟩
        have o : ∀ c : Nat, c ≠ 168 → c ≠ 222 → c ≠ 220 → Q4 c = M1 c := fun c c1 c2 c3 => by rw [g4, pq_o _ _ _ c3, q3o c c1 c2]
        have nn : ∀ j : Int, j ≠ 76 → Q4 168 j = M1 168 j := fun j hj => by rw [g4, pq_o _ _ _ (by omega), g3, pq_ne _ _ _ _ hj, g2, pq_o _ _ _ (by omega)]
        have n76 : Q4 168 76 = (dB s).length + 1 := by rw [g4, pq_o _ _ _ (by omega), g3, pq_at, g2, pq_o _ _ _ (by omega), e76]
        have e220 : Q4 220 x = dN s 2 x + 1 := by
          rw [g4, pq_at, q3o 220 (by omega) (by omega), f2 220 (by omega) (by omega)]
          rw [h2.1]
        have F := k Q4 (mdaF_t f1 ⟨fun c c1 c2 c3 c4 => o c c1 (by omega) (by omega), fun j j1 j2 j3 j4 => nn j j2, fun c y hc hy => by
            by_cases e : c = 220
            · rw [e, g4, pq_ne _ _ _ _ hy, q3o 220 (by omega) (by omega)]
            · rw [o c (by omega) (by omega) e]⟩) ⟨?_, ⟨?_, fun j b hb2 => ?_⟩, ⟨?_, ?_⟩, ?_, fun j t ht => ?_⟩ ?_ ?_ (fun c c1 c2 => ?_)
        · rw [g4] at F
          exact F
        · exact rbO_F w1 (nn 61 (by decide)) (nn 62 (by decide)) (o 212 (by omega) (by omega) (by omega))
        · show Q4 168 76 = ((dB s ++ [if X = List.replicate X.length 0 then 0 else (stB op X).2]).length : Nat)
          rw [n76, List.length_append]
          rfl
        · have hb3 : (dB s ++ [if X = List.replicate X.length 0 then 0 else (stB op X).2])[j]? = some b := hb2
          rw [apG] at hb3
          have e22 : Q4 222 = Q2 222 := by rw [g4, pq_o _ _ _ (by omega), g3, pq_o _ _ _ (by omega)]
          rw [e22, g2]
          by_cases ci : j < (dB s).length
          · rw [if_pos ci] at hb3
            rw [pq_ne _ _ _ _ (by omega), f3 222 (by omega) (by omega)]
            exact D3 j b hb3
          · rw [if_neg ci] at hb3
            by_cases ci2 : j = (dB s).length
            · rw [if_pos ci2] at hb3
              injection hb3 with hb3
              rw [ci2, pq_at, hv]
              exact hb3
            · rw [if_neg ci2] at hb3
              cases hb3
        · show Q4 168 82 = (dF s).length
          rw [nn 82 (by decide), e82]
          exact D4
        · show sl (Q4 225) 0 (dF s).length = dF s
          rw [o 225 (by omega) (by omega) (by omega), f3 225 (by omega) (by omega)]
          exact D5
        · show Q4 168 78 = (dT s).length
          rw [nn 78 (by decide), e78]
          exact D6
        · rw [o 223 (by omega) (by omega) (by omega), o 224 (by omega) (by omega) (by omega), f3 223 (by omega) (by omega), f3 224 (by omega) (by omega)]
          exact D7 j t ht
        · show Q4 220 x = setN _ 2 x (dN s 2 x + 1) 2 x
          rw [setN_at, e220]
        · show Q4 221 x = setN (setN (dN s) 3 x _) 2 x (dN s 2 x + 1) 3 x
          rw [setN_ne (Or.inl (by decide)), setN_at, o 221 (by omega) (by omega) (by omega), e221]
          exact hzv
        · rw [o c (by omega) (by omega) (by omega), f2 c c1 (by omega)]
      rw [g3, g2] at T
      exact T
    -- behind the bytes of zeros
    have B69 : ∀ zv : Int, zv = dN s 3 x + (if X = List.replicate X.length 0 then (X.length : Int) else 0) → b269_69 (d + 19) (fW (d + 19) kd269 K) K [some (fx 168), some (ti x), some (ti p), some (ti n), some (ti z), some (ti i)] [ti zv, ti x, fx 221] (sh, M, nx, zl) := by
      intro zv hzv
      refine ⟨by omega, ?_⟩
      obtain ⟨Q1, g1⟩ : ∃ Q1 : FM, Q1 = pq M 221 x zv := ⟨_, rfl⟩
      have q1o : ∀ c : Nat, c ≠ 221 → Q1 c = M c := fun c hc => by rw [g1, pq_o _ _ _ hc]
      have e168 : Q1 168 = M 168 := q1o 168 (by omega)
      have e76 : Q1 168 76 = (dB s).length := by rw [e168]; exact D2
      have fQ : mdaF M Q1 x := ⟨fun c c1 c2 c3 c4 => q1o c (by omega), fun j _ _ _ _ => by rw [e168], fun c y hc hy => by
        by_cases e : c = 221
        · rw [e, g1, pq_ne _ _ _ _ hy]
        · rw [q1o c e]⟩
      have v221 : Q1 221 x = zv := by rw [g1, pq_at]
      have T : (o_al 0 (o_get 12 77 77 (o_al 0 (o_get 12 76 76 (o_il 4 (o_if .eq (o_al 0 (o_al 0 (o_get 12 16 16 (o_il 2 (o_il 3 (o_callv (d + 19) 270 3 12 (b269_97 (d + 19) (fW (d + 19) kd269 K) K))))))) (o_ic 0 (b269_97 (d + 19) (fW (d + 19) kd269 K) K))))))) : FC) [some (fx 168), some (ti x), some (ti p), some (ti n), some (ti z), some (ti i)] [] (sh, Q1, nx, zl) := by
        rcases hz with ⟨z1, z2⟩ | ⟨z1, z2⟩
        · refine ⟨by omega, fun w => by omega, fun w => ?_⟩
          have F := B97 0 zv Q1 (by rw [if_pos z2]) hzv fQ (fun c c1 c2 => q1o c (by omega)) v221 (by
            rw [if_pos z2]
            exact rbO_F D1 (by rw [e168]) (by rw [e168]) (q1o 212 (by omega))) e76 (by rw [e168]) (by rw [e168]) (fun c c1 c2 => q1o c (by omega))
          rw [← e76] at F
          exact F
        · refine ⟨by omega, fun w => ?_, fun w => by omega⟩
          have sl2 := stB_len op X
          refine store_Y (c := 181) (nc := 65536) (X := X) rfl (by omega) (by omega) hp hn hpn (by rw [q1o 181 (by omega)]; exact hX) hop (by rw [e168]; exact h69) (rbO_F D1 (by rw [e168]) (by rw [e168]) (q1o 212 (by omega))) (fun M2 f2 w2 => ?_)
          rw [apO_fit (by omega)] at w2
          have gk : ∀ c : Nat, 216 ≤ c → c ≤ 225 → M2 c = Q1 c := fun c c1 c2 => f2.1 c (by omega) (by omega) (by omega)
          have kk : ∀ j : Int, 62 < j → M2 168 j = M 168 j := fun j hj => by rw [f2.2 j (by omega) (by omega) (by omega) (by omega) (by omega), e168]
          have F := B97 _ zv M2 (by rw [if_neg z2]) hzv (mdaF_t fQ ⟨fun c c1 c2 c3 c4 => f2.1 c c1 c2 c3, fun j j1 j2 j3 j4 => f2.2 j (by omega) (by omega) (by omega) (by omega) (by omega), fun c y hc hy => by rw [gk c (by omega) (by omega)]⟩) (fun c c1 c2 => by rw [gk c (by omega) (by omega), q1o c (by omega)]) (by rw [gk 221 (by omega) (by omega)]; exact v221) (by
            rw [if_neg z2]
            exact w2) (by rw [kk 76 (by decide)]; exact D2) (kk 78 (by decide)) (kk 82 (by decide)) (fun c c1 c2 => by rw [gk c (by omega) (by omega), q1o c (by omega)])
          rw [← e76] at F
          exact F
      rw [g1] at T
      exact T
    rcases id hz with ⟨z1, z2⟩ | ⟨z1, z2⟩
    · refine ⟨by omega, fun w => by omega, fun w => ?_⟩
      refine ⟨by omega, ?_⟩
      refine B69 (M 221 x + n) ?_
      rw [if_pos z2, xl, h2.2]
    · refine ⟨by omega, fun w => ?_, fun w => by omega⟩
      refine ⟨by omega, ?_⟩
      refine B69 (M 221 x) ?_
      rw [if_neg z2, h2.2]
      omega
  have LOOP : ∀ (N : Nat) (i z : Int), (n - i).toNat < N → 0 ≤ i → i ≤ n → (z = 1 ∧ (∀ j : Int, 0 ≤ j → j < i → M 181 (p + j) % 256 = 0) ∨ z = 0 ∧ ∃ j : Int, 0 ≤ j ∧ j < n ∧ M 181 (p + j) % 256 ≠ 0) → fm_X (d + 19) kd269 6 [some (fx 168), some (ti x), some (ti p), some (ti n), some (ti z), some (ti i)] [] (sh, M, nx, zl) K := by
    have NOT : (∃ j : Int, 0 ≤ j ∧ j < n ∧ M 181 (p + j) % 256 ≠ 0) → X ≠ List.replicate X.length 0 := by
      intro ⟨j, j0, j1, j2⟩ q
      rw [← hX, sl_len] at q
      have := rep_iff n.toNat p q j.toNat (by omega)
      rw [show ((j.toNat : Nat) : Int) = j by omega] at this
      exact j2 this
    intro N
    induction N with
    | zero =>
      intro i z hN
      omega
    | succ N ih =>
      intro i z hN i0 i1 hz
      have zr : 0 ≤ z ∧ z ≤ 1 := by
        rcases hz with ⟨z1, _⟩ | ⟨z1, _⟩ <;> omega
      refine s269_6 (d + 19) K _ _ _ ?_
      refine ⟨by omega, fun w => B42 z i ?_, fun w => ?_⟩
      · rcases hz with ⟨z1, z2⟩ | ⟨z1, z2⟩
        · refine Or.inl ⟨z1, ?_⟩
          rw [← hX, sl_len]
          exact rep_sl _ p (fun j hj => z2 j (by omega) (by omega))
        · exact Or.inr ⟨z1, NOT z2⟩
      · refine ⟨by omega, fun w2 => B42 z i ?_, fun w2 => ?_⟩
        · rcases hz with ⟨z1, z2⟩ | ⟨z1, z2⟩
          · omega
          · exact Or.inr ⟨z1, NOT z2⟩
        · refine ⟨by omega, ?_⟩
          refine ⟨by omega, fun w3 => ?_, fun w3 => ?_⟩
          · refine ih (i + 1) 0 (by omega) (by omega) (by omega) (Or.inr ⟨rfl, i, i0, by omega, ?_⟩)
            omega
          · refine ih (i + 1) 1 (by omega) (by omega) (by omega) (Or.inl ⟨rfl, fun j j0 j1 => ?_⟩)
            rcases hz with ⟨z1, z2⟩ | ⟨z1, z2⟩
            · by_cases e : j = i
              · rw [e]
                omega
              · exact z2 j j0 (by omega)
            · omega
  exact LOOP ((n - 0).toNat + 1) 0 1 (by omega) (by omega) (by omega) (Or.inl ⟨rfl, fun j j0 j1 => by omega⟩)
end MDATA2
