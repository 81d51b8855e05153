/-! PACKING: tokens written; both -/
/-- the bits of a symbol's code -/
def cbL (ls : Int → Int) (n : Nat) (s : Int) : List Int := hbL (cdC ls n s.toNat) (ls s).toNat
/-- the bits of a token -/
def tkL (la : Int → Int) (na : Nat) (lb : Int → Int) (nb : Nat) (t : Int × Int) : List Int := if t.1 = 0 then cbL la na t.2 else cbL la na (lnY t.1) ++ (nbL (t.1 - lnB (lnY t.1)) (lnM (lnY t.1)) ++ (cbL lb nb (dsY t.2) ++ nbL (t.2 - dsB (dsY t.2)) (dsM (dsY t.2))))
def tksL (la : Int → Int) (na : Nat) (lb : Int → Int) (nb : Nat) : List (Int × Int) → List Int
  | [] => cbL la na 256
  | t :: r => tkL la na lb nb t ++ tksL la na lb nb r
theorem cbL_len (ls : Int → Int) (n : Nat) {s : Int} (h : 0 ≤ ls s) : ((cbL ls n s).length : Int) = ls s := by
  unfold cbL
  rw [hbL_len]
  omega
theorem tkL_len {la lb : Int → Int} (na nb : Nat) {t : Int × Int} (ok : tkOK t) (ha : ∀ s : Int, 0 ≤ s → s < 286 → 0 ≤ la s ∧ la s ≤ 15) (hb : ∀ s : Int, 0 ≤ s → s < 30 → 0 ≤ lb s ∧ lb s ≤ 15) : ((tkL la na lb nb t).length : Int) = tkB la lb t := by
  unfold tkL tkB
  rcases ok with ⟨h1, h2, h3⟩ | ⟨h1, h2⟩
  · rw [if_pos h1, if_pos h1]
    exact cbL_len la na (ha t.2 h2 (by omega)).1
  · have l1 := lnY_r h1
    have d1 := dsY_r h2
    have e1 := (eLn_M h1).1
    have e2 := (eDs_M h2).1
    have c1 := cbL_len la na (ha (lnY t.1) (by omega) (by omega)).1
    have c2 := cbL_len lb nb (hb (dsY t.2) (by omega) (by omega)).1
    rw [if_neg (by omega), if_neg (by omega), List.length_append, List.length_append, List.length_append, nbL_len, nbL_len]
    omega
theorem tksL_len {la lb : Int → Int} (na nb : Nat) (ha : ∀ s : Int, 0 ≤ s → s < 286 → 0 ≤ la s ∧ la s ≤ 15) (hb : ∀ s : Int, 0 ≤ s → s < 30 → 0 ≤ lb s ∧ lb s ≤ 15) : ∀ T : List (Int × Int), (∀ t ∈ T, tkOK t) → ((tksL la na lb nb T).length : Int) = byT la lb T
  | [], _ => by
    show ((cbL la na 256).length : Int) = la 256 + 0
    rw [cbL_len la na (ha 256 (by omega) (by omega)).1]
    omega
  | t :: r, h => by
    have ih := tksL_len na nb ha hb r (fun q hq => h q (List.mem_cons_of_mem _ hq))
    have c := tkL_len na nb (h t (List.mem_cons_self ..)) ha hb
    show ((tkL la na lb nb t ++ tksL la na lb nb r).length : Int) = la 256 + (tkB la lb t + tkBs la lb r)
    rw [List.length_append]
    unfold byT at ih
    omega
section WTOK
variable {d nx zl : Nat} {K : Option TV → FH → Prop} {sh : Nat → Option Shp} {M : FM} {B : List Int} {T : List (Int × Int)} {la lb : Int → Int}
theorem putBits_YI {v ni : Int} {n : Nat} (hni : ni = n) (hB : pbV M B) (hv : 0 ≤ v ∧ v < 2 ^ n) (hn : n ≤ 16) (hl : B.length + n ≤ 526336) (k : ∀ M2 : FM, pbF M M2 → pbV M2 (B ++ nbL v n) → K none (sh, M2, nx, zl)) : fm_Y (d + 2) 90 [.ref 22, .int (Int32.ofInt v), .int (Int32.ofInt ni)] (sh, M, nx, zl) K := by
  rw [hni]
  exact putBits_Y hB hv hn hl k
theorem pbF_r (M : FM) : pbF M M := ⟨fun _ _ _ _ => rfl, fun _ _ _ => rfl⟩
theorem cdT_at {M : FM} {c1 c2 : Nat} {ls : Int → Int} {n : Nat} (h : cdT M c1 c2 ls n) {s : Int} (s0 : 0 ≤ s) (s1 : s < n) : M c1 s = ls s ∧ (0 ≤ ls s ∧ ls s ≤ 15) ∧ M c2 s = rvB (cdC ls n s.toNat) (ls s).toNat := by
  have := h s.toNat (by omega)
  rw [show (s.toNat : Int) = s by omega] at this
  exact ⟨this.1.1, this.1.2, this.2⟩
theorem cdT_F {M M2 : FM} {c1 c2 : Nat} {ls : Int → Int} {n : Nat} (h : cdT M c1 c2 ls n) (h1 : M2 c1 = M c1) (h2 : M2 c2 = M c2) : cdT M2 c1 c2 ls n := by
  intro s hs
  rw [h1, h2]
  exact h s hs
theorem putSymbols_Y {q1 a0 a1 a2 a4 a5 na q2 b0 b1 b2 b4 b5 nb : Nat} (hq1 : cqS sh q1 a0 a1 a2 a4 a5 na) (hq2 : cqS sh q2 b0 b1 b2 b4 b5 nb) (hna : 286 ≤ na) (hnb : 30 ≤ nb) (hcell : 28 < a1 ∧ 28 < a2 ∧ 28 < b1 ∧ 28 < b2) (hA : cdT M a1 a2 la na) (hBb : cdT M b1 b2 lb nb) (hl : M 22 7 = T.length) (hT : T.length ≤ 4096) (hv : tkW (M 27) (M 28) T) (hok : ∀ t ∈ T, tkOK t) (hB : pbV M B) (hbound : (B.length : Int) + byT la lb T ≤ 526336)
    (k : ∀ M2 : FM, pbF M M2 → pbV M2 (B ++ tksL la na lb nb T) → K none (sh, M2, nx, zl)) : fm_Y (d + 3) 98 [.ref 22, .ref q1, .ref q2] (sh, M, nx, zl) K := by
  obtain ⟨⟨a3, hs1⟩, ⟨-, s1, s2, -, -⟩, -, -, hn1⟩ := hq1
  obtain ⟨⟨b3, hs2⟩, ⟨-, t1, t2, -, -⟩, -, -, hn2⟩ := hq2
  have ha : ∀ s : Int, 0 ≤ s → s < 286 → 0 ≤ la s ∧ la s ≤ 15 := fun s s0 s1 => (cdT_at hA s0 (by omega)).2.1
  have hb : ∀ s : Int, 0 ≤ s → s < 30 → 0 ≤ lb s ∧ lb s ≤ 15 := fun s s0 s1 => (cdT_at hBb s0 (by omega)).2.1
  have tot := tksL_len na nb ha hb T hok
  refine m98 [fx 22, gr q1, gr q2] ?_
  have L : ∀ (G i : Nat) (ii : Int) (pre : List Int) (M1 : FM) (y4 y5 y6 y7 y8 : Option TV), ((T.length : Int) - ii).toNat < G → ii = i → i ≤ T.length → pbF M M1 → pbV M1 pre → pre ++ tksL la na lb nb (T.drop i) = B ++ tksL la na lb nb T → fm_X (d + 2) kd98 2 [some (fx 22), some (gr q1), some (gr q2), some (ti ii), y4, y5, y6, y7, y8] [] (sh, M1, nx, zl) K := by
    intro G
    induction G with
    | zero => intro i ii pre M1 y4 y5 y6 y7 y8 z; omega
    | succ G ih =>
      intro i ii pre M1 y4 y5 y6 y7 y8 q1' q2' q3 F1 h1 e
      have lenE := congrArg List.length e
      rw [List.length_append, List.length_append] at lenE
      have n7 : M1 22 7 = T.length := by rw [F1.2 7 (by omega) (by omega)]; exact hl
      have A1 : ∀ M2 : FM, pbF M M2 → cdT M2 a1 a2 la na := fun M2 F2 => cdT_F hA (F2.1 a1 (by omega) (by omega) (by omega)) (F2.1 a2 (by omega) (by omega) (by omega))
      have A2 : ∀ M2 : FM, pbF M M2 → cdT M2 b1 b2 lb nb := fun M2 F2 => cdT_F hBb (F2.1 b1 (by omega) (by omega) (by omega)) (F2.1 b2 (by omega) (by omega) (by omega))
      refine s98_2 (d + 2) K _ _ _ ?_
      refine ⟨by omega, fun u => ?_, fun u => ?_⟩
      · -- the end
        rw [List.drop_eq_nil_of_le (by omega)] at e lenE
        have e9 : tksL la na lb nb [] = cbL la na 256 := rfl
        rw [e9] at e lenE
        obtain ⟨c1, c2, c3⟩ := cdT_at (A1 M1 F1) (s := 256) (by omega) (by omega)
        have cl := cbL_len la na (s := 256) (by omega)
        refine ⟨_, hs1, ?_⟩
        refine ⟨na, s2, ⟨by omega, by omega, by omega⟩, ?_⟩
        rw [c3]
        refine ⟨_, hs1, ?_⟩
        refine ⟨na, s1, ⟨by omega, by omega, by omega⟩, ?_⟩
        rw [c1]
        refine putBits_YI (n := (la 256).toNat) (by omega) h1 (rvB_r _ _) (by omega) (by omega) (fun M2 F2 h2 => ?_)
        rw [nb_hb] at h2
        refine k M2 (pbF_t F1 F2) ?_
        rw [← e]
        exact h2
      · obtain ⟨t, ht⟩ : ∃ t : Int × Int, T[i]? = some t := ⟨_, List.getElem?_eq_getElem (by omega)⟩
        obtain ⟨v1, v2, v3⟩ := hv i t ht
        have ok := hok t (List.mem_of_getElem? ht)
        have ed : T.drop i = t :: T.drop (i + 1) := by
          rw [List.drop_eq_getElem_cons (by omega)]
          congr 1
          rw [List.getElem?_eq_getElem (by omega)] at ht
          injection ht
        have e9 : tksL la na lb nb (t :: T.drop (i + 1)) = tkL la na lb nb t ++ tksL la na lb nb (T.drop (i + 1)) := rfl
        rw [ed, e9] at e lenE
        rw [List.length_append] at lenE
        have tl := tkL_len na nb ok ha hb
        rw [← F1.1 27 (by omega) (by omega) (by omega), ← q2'] at v1
        rw [← F1.1 28 (by omega) (by omega) (by omega), ← q2'] at v2 v3
        have GO : ∀ (M3 : FM) (pre3 : List Int) (y4 y5 y6 y7 y8 : Option TV), pbF M M3 → pbV M3 pre3 → pre3 = pre ++ tkL la na lb nb t → b98_139 (d + 2) (fW (d + 2) kd98 K) K [some (fx 22), some (gr q1), some (gr q2), some (ti ii), y4, y5, y6, y7, y8] [] (sh, M3, nx, zl) := by
          intro M3 pre3 y4 y5 y6 y7 y8 F3 h3 e3
          exact ih (i + 1) (ii + 1) pre3 M3 _ _ _ _ _ (by omega) (by omega) (by omega) F3 h3 (by rw [e3, List.append_assoc]; exact e)
        unfold tkB at tl
        unfold tkL at GO
        -- the symbol is put
        have PS : ∀ (s : Int) (y7 y8 : Option TV), 0 ≤ s → s < 286 → ((cbL la na s).length : Int) + pre.length ≤ 526336 → (∀ M2 : FM, pbF M1 M2 → pbV M2 (pre ++ cbL la na s) → (o_il 4 (o_if .le (b98_139 (d + 2) (fW (d + 2) kd98 K) K) (o_il 4 (o_calls (d + 2) 78 1 (o_is 7 (o_al 0 (o_il 4 (o_ic 3 (o_isub (o_ic 1 (o_il 7 (o_ishl (o_ic 1 (o_isub (b98_84 (d + 2) (fW (d + 2) kd98 K) K)))))))))))))) : FC) [some (fx 22), some (gr q1), some (gr q2), some (ti ii), some (ti t.1), some (ti (M1 28 ii)), some (ti s), y7, y8] [] (sh, M2, nx, zl)) → ∀ y6 : Option TV, b98_41 (d + 2) (fW (d + 2) kd98 K) K [some (fx 22), some (gr q1), some (gr q2), some (ti ii), some (ti t.1), some (ti (M1 28 ii)), y6, y7, y8] [ti s] (sh, M1, nx, zl) := by
          intro s y7 y8 r0 r1 rb kk y6
          obtain ⟨c1, c2, c3⟩ := cdT_at (A1 M1 F1) (s := s) (by omega) (by omega)
          have cl := cbL_len la na (s := s) (by omega)
          refine ⟨_, hs1, ?_⟩
          refine ⟨na, s2, ⟨by omega, by omega, by omega⟩, ?_⟩
          rw [c3]
          refine ⟨_, hs1, ?_⟩
          refine ⟨na, s1, ⟨by omega, by omega, by omega⟩, ?_⟩
          rw [c1]
          refine putBits_YI (n := (la s).toNat) (by omega) h1 (rvB_r _ _) (by omega) (by omega) (fun M2 F2 h2 => ?_)
          rw [nb_hb] at h2
          exact kk M2 F2 h2
        refine ⟨by omega, ?_⟩
        rw [v1]
        refine ⟨by omega, ?_⟩
        rcases ok with ⟨o1, o2, o3⟩ | ⟨o1, o2⟩
        · -- a byte alone
          rw [if_pos o1] at tl
          rw [if_pos o1] at GO
          have ev := v3 o1
          have c1 := cbL_len la na (ha t.2 o2 (by omega)).1
          refine ⟨by omega, fun z => by omega, fun _ => ?_⟩
          rw [ev] at PS ⊢
          refine PS t.2 _ _ o2 (by omega) (by omega) (fun M2 F2 h2 => ?_) _
          exact ⟨by omega, fun _ => GO M2 _ _ _ _ _ _ (pbF_t F1 F2) h2 rfl, fun z => by omega⟩
        · rw [if_neg (by omega)] at tl
          rw [if_neg (by omega)] at GO
          have l1 := lnY_r o1
          have d1 := dsY_r o2
          obtain ⟨e1, e1'⟩ := eLn_M o1
          obtain ⟨e2, e2'⟩ := eDs_M o2
          have er1 := eLn_r t.1
          have er2 := eDs_r t.2
          have ca := ha (lnY t.1) (by omega) (by omega)
          have cb := hb (dsY t.2) (by omega) (by omega)
          have c1 := cbL_len la na ca.1
          have c2 := cbL_len lb nb cb.1
          refine ⟨by omega, fun _ => ?_, fun z => by omega⟩
          refine lenSym_Y o1 ?_
          refine PS (lnY t.1) _ _ (by omega) (by omega) (by omega) (fun M2 F2 h2 => ?_) _
          refine ⟨by omega, fun z => by omega, fun _ => ?_⟩
          refine bitsLen_Y o1 ?_
          refine ⟨by omega, ?_⟩
          rw [show (eLn t.1).toNat = lnM (lnY t.1) by omega, Int.one_mul]
          refine ⟨_, i32_mask (k := lnM (lnY t.1)) (by omega) _ rfl rfl, ?_⟩
          refine putBits_YI (n := lnM (lnY t.1)) (by omega) h2 ⟨Int.emod_nonneg _ (by have := two_pos (lnM (lnY t.1)); omega), Int.emod_lt_of_pos _ (two_pos _)⟩ (by omega) (by rw [List.length_append]; omega) (fun M3 F3 h3 => ?_)
          rw [← e1'] at h3
          refine disSym_M v2 o2 ?_
          have F13 := pbF_t F1 (pbF_t F2 F3)
          obtain ⟨f1, f2, f3⟩ := cdT_at (A2 M3 F13) (s := dsY t.2) (by omega) (by omega)
          refine ⟨_, hs2, ?_⟩
          refine ⟨nb, t2, ⟨by omega, by omega, by omega⟩, ?_⟩
          rw [f3]
          refine ⟨_, hs2, ?_⟩
          refine ⟨nb, t1, ⟨by omega, by omega, by omega⟩, ?_⟩
          rw [f1]
          refine putBits_YI (n := (lb (dsY t.2)).toNat) (by omega) h3 (rvB_r _ _) (by omega) (by rw [List.length_append, List.length_append, nbL_len]; omega) (fun M4 F4 h4 => ?_)
          rw [nb_hb] at h4
          refine bitsDis_M v2 o2 ?_
          refine ⟨by omega, ?_⟩
          rw [show (eDs t.2).toNat = dsM (dsY t.2) by omega, Int.one_mul]
          refine ⟨_, i32_mask (k := dsM (dsY t.2)) (by omega) _ rfl rfl, ?_⟩
          have em : (M1 28 ii - 1) % 2 ^ dsM (dsY t.2) = (t.2 - 1) % 2 ^ dsM (dsY t.2) := by
            have p2 : ∃ y : Int, (4294967296 : Int) = 2 ^ dsM (dsY t.2) * y := ⟨2 ^ (32 - dsM (dsY t.2)), by rw [← Int.pow_add, show dsM (dsY t.2) + (32 - dsM (dsY t.2)) = 32 by omega]; decide⟩
            obtain ⟨y, hy⟩ := p2
            have ex : M1 28 ii - 1 = (t.2 - 1) + 2 ^ dsM (dsY t.2) * (y * (M1 28 ii / 4294967296)) := by
              rw [← Int.mul_assoc, ← hy]
              omega
            rw [ex, Int.add_mul_emod_self_left]
          rw [em]
          refine putBits_YI (n := dsM (dsY t.2)) (by omega) h4 ⟨Int.emod_nonneg _ (by have := two_pos (dsM (dsY t.2)); omega), Int.emod_lt_of_pos _ (two_pos _)⟩ (by omega) (by rw [List.length_append, List.length_append, List.length_append, nbL_len, hbL_len]; omega) (fun M5 F5 h5 => ?_)
          rw [← e2'] at h5
          refine GO M5 _ _ _ _ _ _ (pbF_t F13 (pbF_t F4 F5)) h5 ?_
          rw [List.append_assoc, List.append_assoc, List.append_assoc]
          rfl
  exact L (T.length + 1) 0 0 B M none none none none none (by omega) rfl (by omega) (pbF_r M) hB (by rw [List.drop_zero])
theorem cdC_r (ls : Int → Int) {n s : Nat} (hn : n ≤ 288) (hs : s < n) (h : 0 ≤ ls s ∧ ls s ≤ 15) : 0 ≤ cdC ls n s ∧ cdC ls n s ≤ 2147483647 := by
  have a := fstL_b ls (n := n) (l := (ls s).toNat) hn (by omega)
  have b := cnt_nn ls (ls s) s
  unfold cdC
  omega
/-- a code is written -/
theorem wCode_Y {c n : Nat} {s fr : Int} {ls : Int → Int} (hs : shp sh c = some (.inl (.int, 339))) (hc : c ≠ 168 ∧ c ≠ 188) (hn : n ≤ 288) (hr : 0 ≤ fr ∧ fr + n ≤ 339) (hs2 : 0 ≤ s ∧ s < n) (hl : M c (fr + s) = ls s ∧ 0 ≤ ls s ∧ ls s ≤ 15) (hv : M 203 (fr + s) = if 0 < ls s then cdC ls n s.toNat else 0) (hB : wbV M B) (hbd : (B.length : Int) + ls s ≤ 528000) (k : ∀ M2 : FM, wbF M M2 → wbV M2 (B ++ cbL ls n s) → K none (sh, M2, nx, zl)) : fm_Y (d + 2) 298 [.ref 168, .ref c, .int (Int32.ofInt (fr + s))] (sh, M, nx, zl) K := by
  obtain ⟨L, gL⟩ : ∃ L : Nat, ls s = L := ⟨(ls s).toNat, by omega⟩
  have cr := cdC_r ls (n := n) (s := s.toNat) hn (by omega) (by rw [show (s.toNat : Int) = s by omega]; exact hl.2)
  refine writeCode_Y (n := 339) (L := L) hs hc (by omega) (hl.1.trans gL) (by omega) hv (by split <;> omega) hB (by omega) (fun M2 F2 h2 => k M2 F2 ?_)
  have e : hbL (if 0 < ls s then cdC ls n s.toNat else 0) L = cbL ls n s := by
    unfold cbL
    rw [gL, show (L : Int).toNat = L by omega]
    by_cases z : 0 < (L : Int)
    · rw [if_pos z]
    · rw [show L = 0 by omega]
      rfl
  rw [e] at h2
  exact h2
/-- codes of the reference -/
def cdR (M : FM) (c : Nat) (fr : Int) (ls : Int → Int) (n : Nat) : Prop := ∀ s : Nat, s < n → (M c (fr + s) = ls s ∧ 0 ≤ ls s ∧ ls s ≤ 15) ∧ M 203 (fr + s) = if 0 < ls s then cdC ls n s else 0
theorem cdR_at {M : FM} {c : Nat} {fr : Int} {ls : Int → Int} {n : Nat} (h : cdR M c fr ls n) {s : Int} (s0 : 0 ≤ s) (s1 : s < n) : (M c (fr + s) = ls s ∧ 0 ≤ ls s ∧ ls s ≤ 15) ∧ M 203 (fr + s) = if 0 < ls s then cdC ls n s.toNat else 0 := by
  have := h s.toNat (by omega)
  rw [show (s.toNat : Int) = s by omega] at this
  exact this
def wtF (M M2 : FM) : Prop := (∀ x : Nat, x ≠ 168 → x ≠ 188 → x ≠ 203 → M2 x = M x) ∧ ∀ i : Int, i ≠ 28 → M2 168 i = M 168 i
theorem wtF_w {M M2 M3 : FM} (h1 : wtF M M2) (h2 : wbF M2 M3) : wtF M M3 := ⟨fun x x1 x2 x3 => by rw [h2.1 x x1 x2, h1.1 x x1 x2 x3], fun i hi => by rw [h2.2 i hi, h1.2 i hi]⟩
theorem wtF_t {M M2 M3 : FM} (h1 : wtF M M2) (h2 : wtF M2 M3) : wtF M M3 := ⟨fun x x1 x2 x3 => by rw [h2.1 x x1 x2 x3, h1.1 x x1 x2 x3], fun i hi => by rw [h2.2 i hi, h1.2 i hi]⟩
theorem wtF_b {M M2 : FM} (h : wbF M M2) : wtF M M2 := ⟨fun x x1 x2 _ => h.1 x x1 x2, h.2⟩
theorem writeTokens_Y {c : Nat} (hs : shp sh c = some (.inl (.int, 339))) (hc : c ≠ 168 ∧ c ≠ 188 ∧ c ≠ 203) (hA : ∀ s : Nat, s < 288 → M c s = la s ∧ 0 ≤ la s ∧ la s ≤ 15) (hBb : ∀ s : Nat, s < 32 → M c (288 + s) = lb s ∧ 0 ≤ lb s ∧ lb s ≤ 15) (hl : M 168 31 = T.length) (hT : T.length ≤ 4096) (hv : tkV (M 191) (M 192) T) (hok : ∀ t ∈ T, tkOK t) (hB : wbV M B) (hbound : (B.length : Int) + byT la lb T ≤ 528000)
    (k : ∀ M2 : FM, wtF M M2 → wbV M2 (B ++ tksL la 288 lb 32 T) → K none (sh, M2, nx, zl)) : fm_Y (d + 4) 295 [.ref 168, .ref c] (sh, M, nx, zl) K := by
  have ha : ∀ s : Int, 0 ≤ s → s < 286 → 0 ≤ la s ∧ la s ≤ 15 := fun s s0 s1 => by
    have := (hA s.toNat (by omega)).2
    rw [show (s.toNat : Int) = s by omega] at this
    exact this
  have hb : ∀ s : Int, 0 ≤ s → s < 30 → 0 ≤ lb s ∧ lb s ≤ 15 := fun s s0 s1 => by
    have := (hBb s.toNat (by omega)).2
    rw [show (s.toNat : Int) = s by omega] at this
    exact this
  have tot := tksL_len 288 32 ha hb T hok
  refine m295 [fx 168, gr c] ?_
  refine makeCodes_Y (n := 288) (fr := 0) (ls := la) hs (by omega) hc.2.2 (by omega) (fun t ht => by rw [Int.zero_add]; exact hA t ht) (fun M1 F1 G1 h1 => ?_)
  refine makeCodes_Y (n := 32) (fr := 288) (ls := lb) hs (by omega) hc.2.2 (by omega) (fun t ht => by rw [F1 c hc.2.2]; exact hBb t ht) (fun M2 F2 G2 h2 => ?_)
  have FF : wtF M M2 := ⟨fun x _ _ x3 => by rw [F2 x x3, F1 x x3], fun i _ => by rw [F2 168 (by omega), F1 168 (by omega)]⟩
  have VB : wbV M2 B := by
    have e1 : M2 168 = M 168 := by rw [F2 168 (by omega), F1 168 (by omega)]
    have e2 : M2 188 = M 188 := by rw [F2 188 (by omega), F1 188 (by omega)]
    unfold wbV
    rw [e1, e2]
    exact hB
  have CA : cdR M2 c 0 la 288 := fun s hs => ⟨by rw [F2 c hc.2.2, F1 c hc.2.2, Int.zero_add]; exact hA s hs, by rw [G2 _ (Or.inl (by omega))]; exact h1 s hs⟩
  have CB : cdR M2 c 288 lb 32 := fun s hs => ⟨by rw [F2 c hc.2.2, F1 c hc.2.2]; exact hBb s hs, h2 s hs⟩
  clear F1 G1 h1 F2 G2 h2 hA hBb hB
  have L : ∀ (G i : Nat) (ii : Int) (pre : List Int) (M3 : FM) (y3 y4 : Option TV), ((T.length : Int) - ii).toNat < G → ii = i → i ≤ T.length → wbF M2 M3 → wbV M3 pre → pre ++ tksL la 288 lb 32 (T.drop i) = B ++ tksL la 288 lb 32 T → fm_X (d + 3) kd295 21 [some (fx 168), some (gr c), some (ti ii), y3, y4] [] (sh, M3, nx, zl) K := by
    intro G
    induction G with
    | zero => intro i ii pre M3 y3 y4 z; omega
    | succ G ih =>
      intro i ii pre M3 y3 y4 q1 q2 q3 F3 h3 e
      have lenE := congrArg List.length e
      rw [List.length_append, List.length_append] at lenE
      have n31 : M3 168 31 = T.length := by rw [F3.2 31 (by omega), FF.2 31 (by omega)]; exact hl
      have A1 : ∀ M4 : FM, wbF M2 M4 → cdR M4 c 0 la 288 := fun M4 F4 s hs => by
        rw [F4.1 c hc.1 hc.2.1, F4.1 203 (by omega) (by omega)]
        exact CA s hs
      have A2 : ∀ M4 : FM, wbF M2 M4 → cdR M4 c 288 lb 32 := fun M4 F4 s hs => by
        rw [F4.1 c hc.1 hc.2.1, F4.1 203 (by omega) (by omega)]
        exact CB s hs
      refine s295_21 (d + 3) K _ _ _ ?_
      refine ⟨by omega, fun u => ?_, fun u => ?_⟩
      · rw [List.drop_eq_nil_of_le (by omega)] at e lenE
        have e9 : tksL la 288 lb 32 [] = cbL la 288 256 := rfl
        rw [e9] at e lenE
        obtain ⟨c1, c2⟩ := cdR_at (A1 M3 F3) (s := 256) (by omega) (by omega)
        have cl := cbL_len la 288 (s := 256) (by omega)
        refine wCode_Y (fr := 0) (s := 256) (ls := la) (n := 288) hs ⟨hc.1, hc.2.1⟩ (by omega) (by omega) (by omega) c1 c2 h3 (by omega) (fun M4 F4 h4 => ?_)
        refine k M4 (wtF_w (wtF_w FF F3) F4) ?_
        rw [← e]
        exact h4
      · obtain ⟨t, ht⟩ : ∃ t : Int × Int, T[i]? = some t := ⟨_, List.getElem?_eq_getElem (by omega)⟩
        obtain ⟨v1, v2⟩ := hv i t ht
        have ok := hok t (List.mem_of_getElem? ht)
        have ed : T.drop i = t :: T.drop (i + 1) := by
          rw [List.drop_eq_getElem_cons (by omega)]
          congr 1
          rw [List.getElem?_eq_getElem (by omega)] at ht
          injection ht
        have e9 : tksL la 288 lb 32 (t :: T.drop (i + 1)) = tkL la 288 lb 32 t ++ tksL la 288 lb 32 (T.drop (i + 1)) := rfl
        rw [ed, e9] at e lenE
        rw [List.length_append] at lenE
        have tl := tkL_len 288 32 ok ha hb
        have V1 : ∀ M4 : FM, wbF M2 M4 → M4 191 ii = t.1 ∧ M4 192 ii = t.2 := fun M4 F4 => by
          rw [F4.1 191 (by omega) (by omega), F4.1 192 (by omega) (by omega), FF.1 191 (by omega) (by omega) (by omega), FF.1 192 (by omega) (by omega) (by omega), q2]
          exact ⟨v1, v2⟩
        obtain ⟨w1, w2⟩ := V1 M3 F3
        have GO : ∀ (M4 : FM) (pre3 : List Int) (y3 y4 : Option TV), wbF M2 M4 → wbV M4 pre3 → pre3 = pre ++ tkL la 288 lb 32 t → b295_134 (d + 3) (fW (d + 3) kd295 K) K [some (fx 168), some (gr c), some (ti ii), y3, y4] [] (sh, M4, nx, zl) := by
          intro M4 pre3 y3 y4 F4 h4 e3
          exact ih (i + 1) (ii + 1) pre3 M4 _ _ (by omega) (by omega) (by omega) F4 h4 (by rw [e3, List.append_assoc]; exact e)
        unfold tkB at tl
        unfold tkL at GO
        have PS : ∀ s : Int, 0 ≤ s → s < 286 → la s + pre.length ≤ 528000 → (∀ M4 : FM, wbF M3 M4 → wbV M4 (pre ++ cbL la 288 s) → (o_al 0 (o_get 12 32 32 (o_il 2 (o_iald (o_if .le (b295_134 (d + 3) (fW (d + 3) kd295 K) K) (o_al 0 (o_get 12 33 33 (o_il 2 (o_iald (o_calls (d + 3) 281 1 (o_is 4 (o_al 0 (o_al 0 (o_get 12 32 32 (o_il 2 (o_iald (o_il 3 (o_calls (d + 3) 279 1 (o_isub (o_il 3 (b295_96 (d + 3) (fW (d + 3) kd295 K) K)))))))))))))))))))) : FC) [some (fx 168), some (gr c), some (ti ii), some (ti s), y4] [] (sh, M4, nx, zl)) → b295_56 (d + 3) (fW (d + 3) kd295 K) K [some (fx 168), some (gr c), some (ti ii), y3, y4] [ti s] (sh, M3, nx, zl) := by
          intro s r0 r1 rb kk
          obtain ⟨c1, c2⟩ := cdR_at (A1 M3 F3) (s := s) (by omega) (by omega)
          have W := fun (K : Option TV → FH → Prop) kk => wCode_Y (d := d + 1) (nx := nx) (zl := zl) (sh := sh) (K := K) (fr := 0) (s := s) (ls := la) (n := 288) hs ⟨hc.1, hc.2.1⟩ (by omega) (by omega) (by omega) c1 c2 h3 (by omega) kk
          rw [Int.zero_add] at W
          exact W _ kk
        refine ⟨by omega, ?_⟩
        rw [w1]
        rcases ok with ⟨o1, o2, o3⟩ | ⟨o1, o2⟩
        · rw [if_pos o1] at tl
          rw [if_pos o1] at GO
          have lb0 := ha t.2 o2 (by omega)
          refine ⟨by omega, fun z => by omega, fun _ => ?_⟩
          refine ⟨by omega, ?_⟩
          rw [w2]
          refine PS t.2 o2 (by omega) (by omega) (fun M4 F4 h4 => ?_)
          have F14 := wbF_t F3 F4
          refine ⟨by omega, ?_⟩
          rw [(V1 M4 F14).1]
          exact ⟨by omega, fun _ => GO M4 _ _ _ F14 h4 rfl, fun z => by omega⟩
        · rw [if_neg (by omega)] at tl
          rw [if_neg (by omega)] at GO
          have l1 := lnY_r o1
          have d1 := dsY_r o2
          obtain ⟨e1, e1'⟩ := eLn_M o1
          obtain ⟨e2, e2'⟩ := eDs_M o2
          have er1 := eLn_r t.1
          have er2 := eDs_r t.2
          have ca := ha (lnY t.1) (by omega) (by omega)
          have cb := hb (dsY t.2) (by omega) (by omega)
          have c1 := cbL_len la 288 ca.1
          have c2 := cbL_len lb 32 cb.1
          have m1 := Int.emod_nonneg (t.1 - 3) (show (2 : Int) ^ lnM (lnY t.1) ≠ 0 by have := two_pos (lnM (lnY t.1)); omega)
          have m2 := Int.emod_nonneg (t.2 - 1) (show (2 : Int) ^ dsM (dsY t.2) ≠ 0 by have := two_pos (dsM (dsY t.2)); omega)
          have lr := lnB_rng (s := lnY t.1) (by omega) (by omega)
          have dr := dsB_rng (t := dsY t.2) (by omega) (by omega)
          refine ⟨by omega, fun _ => ?_, fun z => by omega⟩
          refine ⟨by omega, ?_⟩
          rw [w1]
          refine mlenSym_Y o1 ?_
          refine PS (lnY t.1) (by omega) (by omega) (by omega) (fun M4 F4 h4 => ?_)
          have F14 := wbF_t F3 F4
          obtain ⟨x1, x2⟩ := V1 M4 F14
          refine ⟨by omega, ?_⟩
          rw [x1]
          refine ⟨by omega, fun z => by omega, fun _ => ?_⟩
          refine ⟨by omega, ?_⟩
          rw [x2]
          refine mdisSym_Y o2 ?_
          refine ⟨by omega, ?_⟩
          rw [x1]
          refine mlengthBase_Y (by omega) (by omega) ?_
          refine mlengthBits_Y (by omega) (by omega) ?_
          refine writeNumber_Y h4 (by omega) (by omega) (by rw [List.length_append]; omega) (fun M5 F5 h5 => ?_)
          have F15 := wbF_t F14 F5
          obtain ⟨c3, c4⟩ := cdR_at (A2 M5 F15) (s := dsY t.2) (by omega) (by omega)
          refine wCode_Y (fr := 288) (s := dsY t.2) (ls := lb) (n := 32) hs ⟨hc.1, hc.2.1⟩ (by omega) (by omega) (by omega) c3 c4 h5 (by rw [List.length_append, List.length_append, nbL_len]; omega) (fun M6 F6 h6 => ?_)
          have F16 := wbF_t F15 F6
          obtain ⟨x3, x4⟩ := V1 M6 F16
          refine ⟨by omega, ?_⟩
          rw [x4]
          refine mdistanceBase_Y (by omega) (by omega) ?_
          refine mdistanceBits_Y (by omega) (by omega) ?_
          refine writeNumber_Y h6 (by omega) (by omega) (by rw [List.length_append, List.length_append, List.length_append, nbL_len]; omega) (fun M7 F7 h7 => ?_)
          refine GO M7 _ _ _ (wbF_t F16 F7) h7 ?_
          rw [List.append_assoc, List.append_assoc, List.append_assoc]
  exact L (T.length + 1) 0 0 B M2 none none (by omega) rfl (by omega) ⟨fun _ _ _ => rfl, fun _ _ => rfl⟩ VB (by rw [List.drop_zero])
end WTOK
