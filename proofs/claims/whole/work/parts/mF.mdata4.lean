/-! FREEZING: data, all of it; the reference -/
theorem twR_k {M M2 : FM} (hW : twR M) (G : ∀ c : Nat, 171 ≤ c → c ≤ 187 → M2 c = M c) (F : ∀ i : Int, 5 ≤ i → i ≤ 26 → M2 168 i = M 168 i) : twR M2 := by
  obtain ⟨w1, w2, w3, w4, w5, w6, w7⟩ := hW
  have j5 := F 5 (by decide) (by decide)
  have j17 := F 17 (by decide) (by decide)
  have j19 := F 19 (by decide) (by decide)
  have j20 := F 20 (by decide) (by decide)
  have j26 := F 26 (by decide) (by decide)
  have LV : ∀ i, live M2 i = live M i := fun i => by unfold live; rw [G 177 (by omega) (by omega)]
  have NM : ∀ i, nmL M2 i = nmL M i := fun i => by unfold nmL; rw [G 185 (by omega) (by omega), G 186 (by omega) (by omega), G 187 (by omega) (by omega)]
  refine ⟨?_, ?_, ?_, ?_, ?_, ?_, ?_⟩
  · unfold twN
    rw [j5, G 171 (by omega) (by omega), G 172 (by omega) (by omega), G 173 (by omega) (by omega), G 174 (by omega) (by omega), G 175 (by omega) (by omega), G 176 (by omega) (by omega), G 178 (by omega) (by omega)]
    exact w1
  · unfold twB
    rw [j5, j17, j19, G 171 (by omega) (by omega), G 179 (by omega) (by omega), G 180 (by omega) (by omega)]
    exact w2
  · unfold twD
    rw [j5, G 171 (by omega) (by omega), G 179 (by omega) (by omega), G 180 (by omega) (by omega)]
    exact w3
  · unfold twE
    simp only [j5, j20, j26, G 171 (by omega) (by omega), G 178 (by omega) (by omega), G 183 (by omega) (by omega), G 184 (by omega) (by omega), G 185 (by omega) (by omega), G 186 (by omega) (by omega), LV]
    exact w4
  · unfold twO ltK
    simp only [j20, G 183 (by omega) (by omega), NM]
    exact w5
  · unfold twS
    rw [j20, G 185 (by omega) (by omega), G 186 (by omega) (by omega)]
    exact w6
  · unfold twC
    rw [j5, j20, G 171 (by omega) (by omega), G 177 (by omega) (by omega), G 184 (by omega) (by omega)]
    exact w7
theorem twX_cg {M M2 : FM} (G : ∀ c : Nat, 171 ≤ c → c ≤ 187 → M2 c = M c) (L : List Int) (x : Int) : ∀ k : Nat, twX M2 L x k = twX M L x k
  | 0 => rfl
  | k + 1 => by
    have fb : ∀ y, fbL M2 y = fbL M y := fun y => by
      unfold fbL
      rw [G 179 (by omega) (by omega), G 180 (by omega) (by omega), G 181 (by omega) (by omega)]
    show (match twX M2 L x k with
      | some y => some y
      | none => match L[k]? with
        | some y => if M2 171 y = 2 ∧ fbL M2 y = fbL M2 x then some y else none
        | none => none) = match twX M L x k with
      | some y => some y
      | none => match L[k]? with
        | some y => if M 171 y = 2 ∧ fbL M y = fbL M x then some y else none
        | none => none
    rw [twX_cg G L x k]
    simp only [fb, G 171 (by omega) (by omega)]
theorem twX_in {M : FM} {L : List Int} {x y : Int} : ∀ q : Nat, twX M L x q = some y → M 171 y = 2 ∧ ∃ j : Nat, j < q ∧ L[j]? = some y
  | 0, h => by cases h
  | q + 1, hq => by
    have hq2 : (match twX M L x q with
      | some y => some y
      | none => match L[q]? with
        | some y => if M 171 y = 2 ∧ fbL M y = fbL M x then some y else none
        | none => none) = some y := hq
    cases h1 : twX M L x q with
    | some y' =>
      rw [h1] at hq2
      have hq3 : some y' = some y := hq2
      obtain ⟨a, j, j1, j2⟩ := twX_in q (h1.trans hq3)
      exact ⟨a, j, by omega, j2⟩
    | none =>
      rw [h1] at hq2
      cases h2 : L[q]? with
      | none =>
        rw [h2] at hq2
        cases hq2
      | some y' =>
        rw [h2] at hq2
        have hq3 : (if M 171 y' = 2 ∧ fbL M y' = fbL M x then some y' else none) = some y := hq2
        split at hq3
        · rename_i hh
          injection hq3 with hq3
          rw [← hq3]
          exact ⟨hh.1, q, by omega, h2⟩
        · cases hq3
/-- what putting data leaves -/
def mzF (M M2 : FM) : Prop := (∀ c : Nat, c ≠ 168 → c ≠ 212 → (c < 188 ∨ 203 < c) → (c < 216 ∨ 225 < c) → M2 c = M c) ∧ ∀ i : Int, (i < 28 ∨ 62 < i ∨ i = 59) → i ≠ 76 → i ≠ 78 → i ≠ 82 → M2 168 i = M 168 i
theorem mzF_t {M M2 M3 : FM} (h : mzF M M2) (g : mzF M2 M3) : mzF M M3 := ⟨fun c h1 h2 h3 h4 => (g.1 c h1 h2 h3 h4).trans (h.1 c h1 h2 h3 h4), fun i h1 h2 h3 h4 => (g.2 i h1 h2 h3 h4).trans (h.2 i h1 h2 h3 h4)⟩
theorem mzF_da {M M2 : FM} {x : Int} (h : mdaF M M2 x) : mzF M M2 := ⟨h.1, h.2.1⟩
/-- the reference's data, and what it keeps of the files among the first k nodes -/
def dmS (M0 M : FM) (L : List Int) (k : Nat) (s : DS) : Prop := daM M s ∧ ∀ (i : Nat) (y : Int), i < k → L[i]? = some y → M0 171 y = 2 → naM M (dN s) y
section MDATA4
variable {d nx zl : Nat} {K : Option TV → FH → Prop} {sh : Nat → Option Shp} {M : FM} {op : Int} {B : Nat} {L : List Int}
theorem mputData_Y (hW : twR M) (hP : nuP M L) (hU : rnU M L) (hB : bB5 B) (hop : 0 ≤ op ∧ op ≤ 15) (h68 : M 168 68 = B) (h69 : M 168 69 = op) (hD : rbO M (some (List.replicate 96 0)))
    (k : ∀ M2 : FM, mzF M M2 → dmS M M2 L L.length (dtE M op B L) → K none (sh, M2, nx, zl)) : fm_Y (d + 22) 266 [.ref 168] (sh, M, nx, zl) K := by
  have br := bB5_r hB
  have LL := nuP_len hW hP
  have nN := hW.1.1
  have t17 := hW.2.1.1
  refine m266 [fx 168] ?_
  have LOOP : ∀ (N j : Nat) (M1 : FM) (y2 y3 : Option TV), L.length - j < N → j ≤ L.length → mzF M M1 → dmS M M1 L j (dtD M op B L j) → fm_X (d + 21) kd266 17 [some (fx 168), some (ti j), y2, y3] [] (sh, M1, nx, zl) K := by
    intro N
    induction N with
    | zero =>
      intro j M1 y2 y3 hN
      omega
    | succ N ih =>
      intro j M1 y2 y3 hN hj f1 S1
      obtain ⟨Q1, Q0⟩ := dtD_q (op := op) hW hP hB j hj
      obtain ⟨⟨q1, q2, q3⟩, ⟨A, A0, A1, A2⟩, q5, q6, q7⟩ := id Q1
      have szj := szS_le2 hW hP j
      have c68 : M1 168 68 = B := by rw [f1.2 68 (by decide) (by decide) (by decide) (by decide)]; exact h68
      have c69 : M1 168 69 = op := by rw [f1.2 69 (by decide) (by decide) (by decide) (by decide)]; exact h69
      have c63 : M1 168 63 = L.length := by rw [f1.2 63 (by decide) (by decide) (by decide) (by decide)]; exact hU.1
      have c62 : M1 168 62 = 0 := S1.1.1.2.2.2
      have G1 : ∀ c : Nat, 171 ≤ c → c ≤ 187 → M1 c = M c := fun c c1 c2 => f1.1 c (by omega) (by omega) (by omega) (by omega)
      have W1 := twR_k hW G1 (fun i i1 i2 => f1.2 i (by omega) (by omega) (by omega) (by omega))
      have P1 : nuP M1 L := by
        refine ⟨hP.1, fun x hx => ?_⟩
        rw [f1.2 5 (by decide) (by decide) (by decide) (by decide)]
        refine ⟨(hP.2 x hx).1, ?_⟩
        unfold live
        rw [G1 177 (by omega) (by omega)]
        exact (hP.2 x hx).2
      have U1 : ∀ (i : Nat) (y : Int), L[i]? = some y → M1 213 i = y := fun i y hy => by
        rw [f1.1 213 (by omega) (by omega) (by omega) (by omega)]
        exact (hU.2.1 i y hy).1
      refine s266_17 (d + 21) K _ _ _ ?_
      refine ⟨by omega, fun w => ?_, fun w => ?_⟩
      · have e : j = L.length := by omega
        refine mcloseFragment_Y (d := d + 1) hop c69 S1.1 (by omega) (by omega) (by omega) (fun M2 f2 D2 => ?_)
        refine k M2 (mzF_t f1 (mzF_da (mcF_da 0 f2))) ⟨?_, fun i y hi hy y2 => ?_⟩
        · unfold dtE
          rw [← e]
          exact D2
        · have := S1.2 i y (by omega) hy y2
          have g : ∀ c : Nat, 216 ≤ c → c ≤ 221 → M2 c = M1 c := fun c c1 c2 => f2.1 c (by omega) (by omega) (by omega) (by omega) (by omega)
          unfold naM at this ⊢
          unfold dtE
          rw [← e, (clD_n (op := op) (s := dtD M op B L j)).1, g 216 (by omega) (by omega), g 217 (by omega) (by omega), g 218 (by omega) (by omega), g 219 (by omega) (by omega), g 220 (by omega) (by omega), g 221 (by omega) (by omega)]
          exact this
      · refine ⟨by omega, fun w2 => by omega, fun _ => ?_⟩
        have hjl : j < L.length := by omega
        obtain ⟨x, hx⟩ : ∃ x, L[j]? = some x := ⟨_, List.getElem?_eq_getElem hjl⟩
        have xl := (hP.2 x (List.mem_of_getElem? hx)).1
        have ux := U1 j x hx
        have xk := (hW.1.2 x xl.1 xl.2).1
        have k171 := G1 171 (by omega) (by omega)
        have es : dtD M op B L (j + 1) = dtX M op B L j (dtD M op B L j) x := by
          show (match L[j]? with
            | none => dtD M op B L j
            | some x => dtX M op B L j (dtD M op B L j) x) = _
          rw [hx]
        have esz : szS M L (j + 1) = szS M L j + (if M 171 x = 2 then M 180 x else 0) := by
          show szS M L j + (match L[j]? with
            | none => 0
            | some x => if M 171 x = 2 then M 180 x else 0) = _
          rw [hx]
        have szn := szS_le2 hW hP (j + 1)
        have NEXT : ∀ (M2 : FM) (ot : Int), mzF M M2 → dmS M M2 L (j + 1) (dtD M op B L (j + 1)) → b266_153 (d + 21) (fW (d + 21) kd266 K) K [some (fx 168), some (ti j), some (ti x), some (ti ot)] [] (sh, M2, nx, zl) := fun M2 ot f2 S2 => ih (j + 1) M2 _ _ (by omega) (by omega) f2 S2
        have OLD : ∀ (M2 : FM) (g2 : Int → Int → Int), (∀ (c : Nat) (y : Int), (216 ≤ c ∧ c ≤ 221) → y ≠ x → M2 c y = M1 c y) → (∀ i y : Int, y ≠ x → g2 i y = dN (dtD M op B L j) i y) → ∀ (i : Nat) (y : Int), i < j → L[i]? = some y → M 171 y = 2 → naM M2 g2 y := by
          intro M2 g2 hc hg i y hi hy y2
          have ne : y ≠ x := fun q => by
            rw [q] at hy
            have := nd_inj hP.1 hy hx
            omega
          have := S1.2 i y hi hy y2
          unfold naM at this ⊢
          rw [hc 216 y (by omega) ne, hc 217 y (by omega) ne, hc 218 y (by omega) ne, hc 219 y (by omega) ne, hc 220 y (by omega) ne, hc 221 y (by omega) ne, hg 0 y ne, hg 1 y ne, hg 2 y ne, hg 3 y ne, hg 4 y ne, hg 5 y ne]
          exact this
        refine ⟨by omega, ?_⟩
        rw [ux]
        refine ⟨by omega, ?_⟩
        rw [k171]
        refine ⟨by omega, fun w3 => ?_, fun w3 => ?_⟩
        · refine ⟨by omega, fun w4 => ?_, fun w4 => by omega⟩
          refine ⟨by omega, ?_⟩
          rw [k171]
          refine ⟨by omega, fun w5 => ?_, fun w5 => absurd w5 w3⟩
          have ex : dtX M op B L j (dtD M op B L j) x = dtD M op B L j := if_neg w3
          refine NEXT M1 (-1) f1 ⟨by rw [es, ex]; exact S1.1, fun i y hi hy y2 => ?_⟩
          rw [es, ex]
          by_cases ei : i = j
          · rw [ei, hx] at hy
            injection hy with hy
            rw [← hy] at y2
            exact absurd y2 w3
          · exact S1.2 i y (by omega) hy y2
        · have x2 : M 171 x = 2 := by omega
          rw [if_pos x2] at esz
          have xr := (hW.2.1.2 x xl.1 xl.2).1
          have xr2 := (hW.2.1.2 x xl.1 xl.2).2.1 x2
          have B58n : twX M L x j = none → b266_58 (d + 21) (fW (d + 21) kd266 K) K [some (fx 168), some (ti j), some (ti x), y3] [ti (-1)] (sh, M1, nx, zl) := by
            intro tw
            have ex : dtX M op B L j (dtD M op B L j) x = fiD op B (fbL M x) x (dtD M op B L j) := by
              unfold dtX
              rw [if_pos x2, tw]
            refine ⟨by omega, fun w4 => ?_, fun w4 => by omega⟩
            refine ⟨by omega, ?_⟩
            rw [k171]
            refine ⟨by omega, fun w5 => absurd x2 w5, fun w5 => ?_⟩
            refine mputFile_Y (d := d) (s := dtD M op B L j) (p := M 179 x) (n := M 180 x) (X := fbL M x) (k0 := j) (S := szS M L j) (by omega) hB hop c68 c69 (by rw [G1 179 (by omega) (by omega)]) (by rw [G1 180 (by omega) (by omega)]) (by omega) (by omega) (by omega) (by rw [G1 181 (by omega) (by omega)]; rfl) S1.1 Q1 Q0 (by omega) (by omega) (fun M2 f2 D2 N2 => ?_)
            refine NEXT M2 _ (mzF_t f1 (mzF_da f2)) ⟨by rw [es, ex]; exact D2, fun i y hi hy y2 => ?_⟩
            rw [es, ex]
            by_cases ei : i = j
            · rw [ei, hx] at hy
              injection hy with hy
              rw [← hy]
              exact N2
            · exact OLD M2 _ (fun c y hc hy2 => f2.2.2 c y hc hy2) (fun i y hy2 => fiD_o hy2) i y (by omega) hy y2
          have B58s : ∀ y : Int, twX M L x j = some y → b266_58 (d + 21) (fW (d + 21) kd266 K) K [some (fx 168), some (ti j), some (ti x), y3] [ti y] (sh, M1, nx, zl) := by
            intro y tw
            obtain ⟨y2, jy, jy1, jy2⟩ := twX_in j tw
            have yl := (hP.2 y (List.mem_of_getElem? jy2)).1
            have nay := S1.2 jy y jy1 jy2 y2
            have ex : dtX M op B L j (dtD M op B L j) x = (dI (dtD M op B L j), dB (dtD M op B L j), dF (dtD M op B L j), dT (dtD M op B L j), cpN (dN (dtD M op B L j)) x y) := by
              unfold dtX
              rw [if_pos x2, tw]
            have ne : y ≠ x := fun q => by
              rw [q] at jy2
              have := nd_inj hP.1 jy2 hx
              omega
            obtain ⟨R1, g1⟩ : ∃ R1 : FM, R1 = pq M1 216 x (M1 216 y) := ⟨_, rfl⟩
            obtain ⟨R2, g2⟩ : ∃ R2 : FM, R2 = pq R1 217 x (R1 217 y) := ⟨_, rfl⟩
            obtain ⟨R3, g3⟩ : ∃ R3 : FM, R3 = pq R2 218 x (R2 218 y) := ⟨_, rfl⟩
            obtain ⟨R4, g4⟩ : ∃ R4 : FM, R4 = pq R3 219 x (R3 219 y) := ⟨_, rfl⟩
            obtain ⟨R5, g5⟩ : ∃ R5 : FM, R5 = pq R4 220 x (R4 220 y) := ⟨_, rfl⟩
            obtain ⟨R6, g6⟩ : ∃ R6 : FM, R6 = pq R5 221 x (R5 221 y) := ⟨_, rfl⟩
            have a1 : ∀ (P : FM) (c2 c : Nat) (v z : Int), z ≠ x → pq P c2 x v c z = P c z := fun P c2 c v z hz => by
              by_cases e : c = c2
              · rw [e, pq_ne _ _ _ _ hz]
              · rw [pq_o _ _ _ e]
            have rx : ∀ (c : Nat) (z : Int), z ≠ x → R6 c z = M1 c z := fun c z hz => by rw [g6, a1 _ _ _ _ _ hz, g5, a1 _ _ _ _ _ hz, g4, a1 _ _ _ _ _ hz, g3, a1 _ _ _ _ _ hz, g2, a1 _ _ _ _ _ hz, g1, a1 _ _ _ _ _ hz]
            have ro : ∀ c : Nat, (c < 216 ∨ 221 < c) → R6 c = M1 c := fun c hc => by rw [g6, pq_o _ _ _ (by omega), g5, pq_o _ _ _ (by omega), g4, pq_o _ _ _ (by omega), g3, pq_o _ _ _ (by omega), g2, pq_o _ _ _ (by omega), g1, pq_o _ _ _ (by omega)]
            have v1 : R6 216 x = M1 216 y := by rw [g6, pq_o _ _ _ (by omega), g5, pq_o _ _ _ (by omega), g4, pq_o _ _ _ (by omega), g3, pq_o _ _ _ (by omega), g2, pq_o _ _ _ (by omega), g1, pq_at]
            have v2 : R6 217 x = M1 217 y := by rw [g6, pq_o _ _ _ (by omega), g5, pq_o _ _ _ (by omega), g4, pq_o _ _ _ (by omega), g3, pq_o _ _ _ (by omega), g2, pq_at, g1, pq_o _ _ _ (by omega)]
            have v3 : R6 218 x = M1 218 y := by rw [g6, pq_o _ _ _ (by omega), g5, pq_o _ _ _ (by omega), g4, pq_o _ _ _ (by omega), g3, pq_at, g2, pq_o _ _ _ (by omega), g1, pq_o _ _ _ (by omega)]
            have v4 : R6 219 x = M1 219 y := by rw [g6, pq_o _ _ _ (by omega), g5, pq_o _ _ _ (by omega), g4, pq_at, g3, pq_o _ _ _ (by omega), g2, pq_o _ _ _ (by omega), g1, pq_o _ _ _ (by omega)]
            have v5 : R6 220 x = M1 220 y := by rw [g6, pq_o _ _ _ (by omega), g5, pq_at, g4, pq_o _ _ _ (by omega), g3, pq_o _ _ _ (by omega), g2, pq_o _ _ _ (by omega), g1, pq_o _ _ _ (by omega)]
            have v6 : R6 221 x = M1 221 y := by rw [g6, pq_at, g5, pq_o _ _ _ (by omega), g4, pq_o _ _ _ (by omega), g3, pq_o _ _ _ (by omega), g2, pq_o _ _ _ (by omega), g1, pq_o _ _ _ (by omega)]
            have F := NEXT R6 y (mzF_t f1 ⟨fun c c1 c2 c3 c4 => ro c (by omega), fun i _ _ _ _ => by rw [ro 168 (by omega)]⟩) ⟨?_, fun i z hi hz z2 => ?_⟩
            · refine ⟨by omega, fun w4 => by omega, fun w4 => ?_⟩
              refine ⟨by omega, ?_⟩
              refine ⟨by omega, ?_⟩
              refine ⟨by omega, ?_⟩
              refine ⟨by omega, ?_⟩
              refine ⟨by omega, ?_⟩
              refine ⟨by omega, ?_⟩
              refine ⟨by omega, ?_⟩
              refine ⟨by omega, ?_⟩
              refine ⟨by omega, ?_⟩
              refine ⟨by omega, ?_⟩
              refine ⟨by omega, ?_⟩
              refine ⟨by omega, ?_⟩
              rw [g6, g5, g4, g3, g2, g1] at F
              exact F
            · rw [es, ex]
              exact daM_F S1.1 (fun c hc => ro c (by omega)) (fun i _ => by rw [ro 168 (by omega)])
            · rw [es, ex]
              by_cases ei : i = j
              · rw [ei, hx] at hz
                injection hz with hz
                rw [← hz]
                have ec : ∀ v : Int, cpN (dN (dtD M op B L j)) x y v x = dN (dtD M op B L j) v y := fun v => if_pos rfl
                show R6 216 x = cpN (dN (dtD M op B L j)) x y 0 x ∧ R6 217 x = cpN (dN (dtD M op B L j)) x y 4 x ∧ R6 218 x = cpN (dN (dtD M op B L j)) x y 5 x ∧ R6 219 x = cpN (dN (dtD M op B L j)) x y 1 x ∧ R6 220 x = cpN (dN (dtD M op B L j)) x y 2 x ∧ R6 221 x = cpN (dN (dtD M op B L j)) x y 3 x
                rw [ec, ec, ec, ec, ec, ec, v1, v2, v3, v4, v5, v6]
                exact nay
              · exact OLD R6 _ (fun c z _ hz2 => rx c z hz2) (fun i z hz2 => if_neg hz2) i z (by omega) hz z2
          refine mtwin_Y (d := d + 20) (L := L) (k := j) (x := x) W1 P1 U1 hx (by rw [k171]; exact x2) ?_
          rw [twX_cg G1 L x j]
          cases tw : twX M L x j with
          | none => exact B58n tw
          | some y => exact B58s y tw
  obtain ⟨R1, g1⟩ : ∃ R1 : FM, R1 = pq M 168 76 0 := ⟨_, rfl⟩
  obtain ⟨R2, g2⟩ : ∃ R2 : FM, R2 = pq R1 168 78 0 := ⟨_, rfl⟩
  obtain ⟨R3, g3⟩ : ∃ R3 : FM, R3 = pq R2 168 82 0 := ⟨_, rfl⟩
  have o : ∀ c : Nat, c ≠ 168 → R3 c = M c := fun c hc => by rw [g3, pq_o _ _ _ hc, g2, pq_o _ _ _ hc, g1, pq_o _ _ _ hc]
  have n : ∀ i : Int, i ≠ 76 → i ≠ 78 → i ≠ 82 → R3 168 i = M 168 i := fun i i1 i2 i3 => by rw [g3, pq_ne _ _ _ _ i3, g2, pq_ne _ _ _ _ i2, g1, pq_ne _ _ _ _ i1]
  have F := LOOP (L.length + 1) 0 R3 none none (by omega) (by omega) ⟨fun c c1 _ _ _ => o c c1, fun i _ i2 i3 i4 => n i i2 i3 i4⟩ ⟨⟨?_, ⟨?_, fun i b hb => by cases hb⟩, ⟨?_, rfl⟩, ?_, fun i t ht => by cases ht⟩, fun i y hi => by omega⟩
  · rw [g3, g2, g1] at F
    exact F
  · exact rbO_F hD (n 61 (by decide) (by decide) (by decide)) (n 62 (by decide) (by decide) (by decide)) (o 212 (by omega))
  · rw [g3, pq_ne _ _ _ _ (by decide), g2, pq_ne _ _ _ _ (by decide), g1, pq_at]
    rfl
  · rw [g3, pq_at]
    rfl
  · rw [g3, pq_ne _ _ _ _ (by decide), g2, pq_at]
    rfl
end MDATA4
