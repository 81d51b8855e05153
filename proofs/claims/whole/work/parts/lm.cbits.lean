/-! PACKING: how many bits a part takes; both -/
/-- the bits behind the symbols -/
def mrB : List (Int × Int) → Int
  | [] => 0
  | t :: r => (if t.1 = 0 then 0 else eLn t.1 + eDs t.2) + mrB r
/-- the bits of a token -/
def tkB (la lb : Int → Int) (t : Int × Int) : Int := if t.1 = 0 then la t.2 else la (lnY t.1) + eLn t.1 + lb (dsY t.2) + eDs t.2
def tkBs (la lb : Int → Int) : List (Int × Int) → Int
  | [] => 0
  | t :: r => tkB la lb t + tkBs la lb r
def byT (la lb : Int → Int) (T : List (Int × Int)) : Int := la 256 + tkBs la lb T
/-- the bits behind a teller -/
def tbE (t : Int) : Int := if t = 16 then 2 else if t = 17 then 3 else if t = 18 then 7 else 0
def tlE : List (Int × Int) → Int
  | [] => 0
  | p :: r => tbE p.1 + tlE r
def tlB2 (lt : Int → Int) : List (Int × Int) → Int
  | [] => 0
  | p :: r => lt p.1 + tbE p.1 + tlB2 lt r
theorem smF_one (la : Int → Int) (y : Int) : ∀ n : Nat, 0 ≤ y → y < n → smF (fun i => (if y = (i : Int) then 1 else 0) * la i) n = la y := by
  have z : ∀ n : Nat, (n : Int) ≤ y → smF (fun i => (if y = (i : Int) then 1 else 0) * la i) n = 0 := by
    intro n
    induction n with
    | zero => exact fun _ => rfl
    | succ n ih =>
      intro h
      show smF (fun i => (if y = (i : Int) then 1 else 0) * la i) n + (if y = (n : Int) then 1 else 0) * la n = 0
      rw [ih (by omega), if_neg (by omega), Int.zero_mul]
      rfl
  intro n
  induction n with
  | zero => exact fun h1 h2 => by omega
  | succ n ih =>
    intro h1 h2
    show smF (fun i => (if y = (i : Int) then 1 else 0) * la i) n + (if y = (n : Int) then 1 else 0) * la n = la y
    by_cases e : y = n
    · rw [z n (by omega), if_pos e, Int.one_mul, e, Int.zero_add]
    · rw [ih h1 (by omega), if_neg e, Int.zero_mul, Int.add_zero]
theorem smF_0 {g : Nat → Int} : ∀ n : Nat, (∀ i : Nat, i < n → g i = 0) → smF g n = 0
  | 0, _ => rfl
  | n + 1, h => by
    show smF g n + g n = 0
    rw [smF_0 n (fun i hi => h i (by omega)), h n (by omega)]
    rfl
theorem cnT_sum (lt : Int → Int) : ∀ S : List (Int × Int), (∀ p ∈ S, 0 ≤ p.1 ∧ p.1 < 19) → smF (fun s => cnT S s * lt s) 19 + tlE S = tlB2 lt S
  | [], _ => by
    rw [smF_0 19 (fun i _ => by show (0 : Int) * _ = 0; rw [Int.zero_mul])]
    rfl
  | p :: r, h => by
    have ih := cnT_sum lt r (fun q hq => h q (List.mem_cons_of_mem _ hq))
    have hp := h p (List.mem_cons_self ..)
    have e : smF (fun s => cnT (p :: r) s * lt s) 19 = smF (fun s => (if p.1 = (s : Int) then 1 else 0) * lt s) 19 + smF (fun s => cnT r s * lt s) 19 := by
      rw [← smF_add]
      refine smF_cg 19 (fun s _ => ?_)
      show ((if p.1 = (s : Int) then 1 else 0) + cnT r s) * lt s = _
      rw [Int.add_mul]
    rw [e, smF_one lt p.1 19 hp.1 (by omega)]
    show lt p.1 + smF (fun s => cnT r s * lt s) 19 + (tbE p.1 + tlE r) = lt p.1 + tbE p.1 + tlB2 lt r
    omega
theorem tkY_r {t : Int × Int} (h : tkOK t) : 0 ≤ tkY t ∧ tkY t < 286 := by
  unfold tkY
  rcases h with ⟨h1, h2, h3⟩ | ⟨h1, h2⟩
  · rw [if_pos h1]
    omega
  · rw [if_neg (by omega)]
    have := lnY_r h1
    omega
theorem cy_sum (la lb : Int → Int) : ∀ T : List (Int × Int), (∀ t ∈ T, tkOK t) → smF (fun s => cyN T s * la s) 286 + smF (fun s => cdN T s * lb s) 30 + mrB T = tkBs la lb T
  | [], _ => by
    rw [smF_0 286 (fun i _ => by show (0 : Int) * _ = 0; rw [Int.zero_mul]), smF_0 30 (fun i _ => by show (0 : Int) * _ = 0; rw [Int.zero_mul])]
    rfl
  | t :: r, h => by
    have ih := cy_sum la lb r (fun q hq => h q (List.mem_cons_of_mem _ hq))
    have ht := h t (List.mem_cons_self ..)
    have tr := tkY_r ht
    have e : smF (fun s => cyN (t :: r) s * la s) 286 = smF (fun s => (if tkY t = (s : Int) then 1 else 0) * la s) 286 + smF (fun s => cyN r s * la s) 286 := by
      rw [← smF_add]
      refine smF_cg 286 (fun s _ => ?_)
      show (cyN r s + (if tkY t = (s : Int) then 1 else 0)) * la s = _
      rw [Int.add_mul, Int.add_comm]
    have e2 : smF (fun s => cdN (t :: r) s * lb s) 30 = (if t.1 = 0 then 0 else lb (dsY t.2)) + smF (fun s => cdN r s * lb s) 30 := by
      by_cases c : t.1 = 0
      · rw [if_pos c, Int.zero_add]
        refine smF_cg 30 (fun s _ => ?_)
        show (cdN r s + (if t.1 ≠ 0 ∧ dsY t.2 = (s : Int) then 1 else 0)) * lb s = _
        rw [if_neg (fun z => z.1 c), Int.add_zero]
      · rw [if_neg c]
        have dr : 0 ≤ dsY t.2 ∧ dsY t.2 ≤ 29 := by
          rcases ht with ⟨h1, -⟩ | ⟨-, h2⟩
          · exact absurd h1 c
          · exact dsY_r h2
        rw [← smF_one lb (dsY t.2) 30 dr.1 (by omega), ← smF_add]
        refine smF_cg 30 (fun s _ => ?_)
        show (cdN r s + (if t.1 ≠ 0 ∧ dsY t.2 = (s : Int) then 1 else 0)) * lb s = _
        by_cases c2 : dsY t.2 = (s : Int)
        · rw [if_pos ⟨c, c2⟩, if_pos c2, Int.add_mul, Int.add_comm]
        · rw [if_neg (fun z => c2 z.2), if_neg c2, Int.zero_mul, Int.add_zero, Int.zero_add]
    rw [e, e2, smF_one la (tkY t) 286 tr.1 (by omega)]
    show la (tkY t) + smF (fun s => cyN r s * la s) 286 + ((if t.1 = 0 then 0 else lb (dsY t.2)) + smF (fun s => cdN r s * lb s) 30) + ((if t.1 = 0 then 0 else eLn t.1 + eDs t.2) + mrB r) = tkB la lb t + tkBs la lb r
    rw [← ih]
    unfold tkB tkY
    by_cases c : t.1 = 0
    · rw [if_pos c, if_pos c, if_pos c, if_pos c]
      omega
    · rw [if_neg c, if_neg c, if_neg c, if_neg c]
      omega
theorem cyS_sum (la lb : Int → Int) (T : List (Int × Int)) (h : ∀ t ∈ T, tkOK t) : smF (fun s => cyS T s * la s) 286 + smF (fun s => cdN T s * lb s) 30 + mrB T = byT la lb T := by
  have e : smF (fun s => cyS T s * la s) 286 = smF (fun s => cyN T s * la s) 286 + smF (fun s => (if (256 : Int) = (s : Int) then 1 else 0) * la s) 286 := by
    rw [← smF_add]
    refine smF_cg 286 (fun s _ => ?_)
    unfold cyS
    rw [Int.add_mul]
    by_cases c : (s : Int) = 256
    · rw [if_pos c, if_pos c.symm]
    · rw [if_neg c, if_neg (fun z => c z.symm)]
  rw [e, smF_one la 256 286 (by omega) (by omega)]
  have := cy_sum la lb T h
  unfold byT
  omega
theorem eLn_r (n : Int) : 0 ≤ eLn n ∧ eLn n ≤ 5 := by
  unfold eLn
  repeat' split
  all_goals omega
theorem eDs_r (n : Int) : 0 ≤ eDs n ∧ eDs n ≤ 13 := by
  unfold eDs
  repeat' split
  all_goals omega
theorem tbE_r (t : Int) : 0 ≤ tbE t ∧ tbE t ≤ 7 := by
  unfold tbE
  repeat' split
  all_goals omega
theorem tkBs_b {la lb : Int → Int} (ha : ∀ s : Int, 0 ≤ s → s < 286 → 0 ≤ la s ∧ la s ≤ 15) (hb : ∀ s : Int, 0 ≤ s → s < 30 → 0 ≤ lb s ∧ lb s ≤ 15) : ∀ T : List (Int × Int), (∀ t ∈ T, tkOK t) → 0 ≤ tkBs la lb T ∧ tkBs la lb T ≤ 48 * T.length
  | [], _ => by
    show (0 : Int) ≤ 0 ∧ (0 : Int) ≤ 48 * ((0 : Nat) : Int)
    omega
  | t :: r, h => by
    have ih := tkBs_b ha hb r (fun q hq => h q (List.mem_cons_of_mem _ hq))
    have ht := h t (List.mem_cons_self ..)
    have e1 := eLn_r t.1
    have e2 := eDs_r t.2
    have tb : 0 ≤ tkB la lb t ∧ tkB la lb t ≤ 48 := by
      unfold tkB
      rcases ht with ⟨h1, h2, h3⟩ | ⟨h1, h2⟩
      · rw [if_pos h1]
        have := ha t.2 h2 (by omega)
        omega
      · rw [if_neg (by omega)]
        have l1 := lnY_r h1
        have d1 := dsY_r h2
        have := ha (lnY t.1) (by omega) (by omega)
        have := hb (dsY t.2) (by omega) (by omega)
        omega
    show 0 ≤ tkB la lb t + tkBs la lb r ∧ tkB la lb t + tkBs la lb r ≤ 48 * ((r.length + 1 : Nat) : Int)
    omega
theorem tlB2_b {lt : Int → Int} (ha : ∀ s : Int, 0 ≤ s → s < 19 → 0 ≤ lt s ∧ lt s ≤ 15) : ∀ S : List (Int × Int), (∀ p ∈ S, 0 ≤ p.1 ∧ p.1 < 19) → 0 ≤ tlB2 lt S ∧ tlB2 lt S ≤ 22 * S.length
  | [], _ => by
    show (0 : Int) ≤ 0 ∧ (0 : Int) ≤ 22 * ((0 : Nat) : Int)
    omega
  | p :: r, h => by
    have ih := tlB2_b ha r (fun q hq => h q (List.mem_cons_of_mem _ hq))
    have hp := h p (List.mem_cons_self ..)
    have e1 := tbE_r p.1
    have e2 := ha p.1 hp.1 hp.2
    show 0 ≤ lt p.1 + tbE p.1 + tlB2 lt r ∧ lt p.1 + tbE p.1 + tlB2 lt r ≤ 22 * ((r.length + 1 : Nat) : Int)
    omega
section CBITS
variable {d nx zl : Nat} {K : Option TV → FH → Prop} {sh : Nat → Option Shp} {M : FM}
theorem mrB_add (T : List (Int × Int)) (t : Int × Int) : mrB (T ++ [t]) = mrB T + (if t.1 = 0 then 0 else eLn t.1 + eDs t.2) := by
  induction T with
  | nil =>
    show _ + (0 : Int) = 0 + _
    omega
  | cons u r ih =>
    show _ + mrB (r ++ [t]) = _ + mrB r + _
    rw [ih]
    omega
theorem moreBits_Y {T : List (Int × Int)} (hl : M 22 7 = T.length) (hT : T.length ≤ 4096) (hv : tkW (M 27) (M 28) T) (hok : ∀ t ∈ T, tkOK t) (k : K (some (ti (mrB T))) (sh, M, nx, zl)) : fm_Y (d + 2) 91 [.ref 22] (sh, M, nx, zl) K := by
  refine m91 [fx 22] ?_
  have L : ∀ (G i : Nat) (ii : Int), ((T.length : Int) - ii).toNat < G → ii = i → i ≤ T.length → fm_X (d + 1) kd91 4 [some (fx 22), some (ti (mrB (T.take i))), some (ti ii)] [] (sh, M, nx, zl) K := by
    intro G
    induction G with
    | zero => intro i ii z; omega
    | succ G ih =>
      intro i ii q1 q2 q3
      refine s91_4 (d + 1) K _ _ _ ?_
      refine ⟨by omega, fun u => ?_, fun u => ?_⟩
      · rw [List.take_of_length_le (by omega)]
        exact k
      · obtain ⟨t, ht⟩ : ∃ t : Int × Int, T[i]? = some t := ⟨_, List.getElem?_eq_getElem (by omega)⟩
        obtain ⟨v1, v2, -⟩ := hv i t ht
        rw [← q2] at v1 v2
        have ok := hok t (List.mem_of_getElem? ht)
        have et : T.take (i + 1) = T.take i ++ [t] := by
          rw [List.take_add_one, ht]
          rfl
        have I := ih (i + 1) (ii + 1) (by omega) (by omega) (by omega)
        rw [et, mrB_add] at I
        refine ⟨by omega, ?_⟩
        rw [v1]
        rcases ok with ⟨o1, o2⟩ | ⟨o1, o2⟩
        · rw [if_pos o1, Int.add_zero] at I
          exact ⟨by omega, fun _ => I, fun z => by omega⟩
        · rw [if_neg (by omega)] at I
          refine ⟨by omega, fun z => by omega, fun _ => ?_⟩
          refine ⟨by omega, ?_⟩
          rw [v1]
          refine bitsLen_Y o1 ?_
          refine ⟨by omega, ?_⟩
          refine bitsDis_M v2 o2 ?_
          exact I
  exact L (T.length + 1) 0 0 (by omega) rfl (by omega)
theorem codeBits_Y {q c0 c1 c2 c4 c5 n : Nat} {c ls : Int → Int} (hq : cqS sh q c0 c1 c2 c4 c5 n) (hc : ∀ s : Nat, s < n → M c0 s = c s) (hl : ∀ s : Nat, s < n → M c1 s = ls s) (k : K (some (ti (smF (fun s => c s * ls s) n))) (sh, M, nx, zl)) : fm_Y (d + 1) 95 [.ref q] (sh, M, nx, zl) K := by
  obtain ⟨⟨c3, hs⟩, ⟨s0, s1, s2, s4, s5⟩, -, -, hn⟩ := hq
  refine m95 [gr q] ?_
  have L : ∀ (G s : Nat) (si : Int), ((n : Int) - si).toNat < G → si = s → s ≤ n → fm_X d kd95 4 [some (gr q), some (ti (smF (fun s => c s * ls s) s)), some (ti si)] [] (sh, M, nx, zl) K := by
    intro G
    induction G with
    | zero => intro s si z; omega
    | succ G ih =>
      intro s si q1 q2 q3
      refine s95_4 d K _ _ _ ?_
      refine ⟨_, hs, ?_⟩
      refine ⟨_, _, s0, ?_⟩
      refine ⟨by omega, fun u => ?_, fun u => ?_⟩
      · rw [show s = n by omega]
        exact k
      · have I := ih (s + 1) (si + 1) (by omega) (by omega) (by omega)
        have e1 := hc s (by omega)
        have e2 := hl s (by omega)
        rw [← q2] at e1 e2
        refine ⟨_, hs, ?_⟩
        refine ⟨n, s0, ⟨by omega, by omega, by omega⟩, ?_⟩
        rw [e1]
        refine ⟨_, hs, ?_⟩
        refine ⟨n, s1, ⟨by omega, by omega, by omega⟩, ?_⟩
        rw [e2, q2]
        rw [q2] at I
        exact I
  exact L (n + 1) 0 0 (by omega) rfl (by omega)
theorem fixedBits_Y {T : List (Int × Int)} (hy : ∀ s : Int, 0 ≤ s → s < 286 → M 32 s = cyS T s) (hd : ∀ s : Int, 0 ≤ s → s < 30 → M 39 s = cdN T s) (fa : ∀ s : Nat, s < 288 → M 54 s = fxA s) (fb : ∀ s : Nat, s < 32 → M 61 s = fxB s) (k : K (some (ti (2 + smF (fun s => cyS T s * fxA s) 286 + smF (fun s => cdN T s * fxB s) 30))) (sh, M, nx, zl)) : fm_Y (d + 1) 92 [.ref 22] (sh, M, nx, zl) K := by
  refine m92 [fx 22] ?_
  have L46 : ∀ (G s : Nat) (si : Int), ((30 : Int) - si).toNat < G → si = s → s ≤ 30 → fm_X d kd92 46 [some (fx 22), some (ti (2 + smF (fun s => cyS T s * fxA s) 286 + smF (fun s => cdN T s * fxB s) s)), some (ti si)] [] (sh, M, nx, zl) K := by
    intro G
    induction G with
    | zero => intro s si z; omega
    | succ G ih =>
      intro s si q1 q2 q3
      refine s92_46 d K _ _ _ ?_
      refine ⟨by omega, fun u => ?_, fun u => ?_⟩
      · have es : s = 30 := by omega
        rw [es]
        exact k
      · have I := ih (s + 1) (si + 1) (by omega) (by omega) (by omega)
        have e1 := hd si (by omega) (by omega)
        have e2 := fb s (by omega)
        rw [← q2] at e2
        refine ⟨by omega, ?_⟩
        refine ⟨by omega, ?_⟩
        rw [e1, e2, q2]
        have es : smF (fun s => cdN T s * fxB s) (s + 1) = smF (fun s => cdN T s * fxB s) s + cdN T s * fxB s := rfl
        rw [es, ← Int.add_assoc, q2] at I
        exact I
  have L4 : ∀ (G s : Nat) (si : Int), ((286 : Int) - si).toNat < G → si = s → s ≤ 286 → fm_X d kd92 4 [some (fx 22), some (ti (2 + smF (fun s => cyS T s * fxA s) s)), some (ti si)] [] (sh, M, nx, zl) K := by
    intro G
    induction G with
    | zero => intro s si z; omega
    | succ G ih =>
      intro s si q1 q2 q3
      refine s92_4 d K _ _ _ ?_
      refine ⟨by omega, fun u => ?_, fun u => ?_⟩
      · have es : s = 286 := by omega
        rw [es]
        have R := L46 31 0 0 (by omega) rfl (by omega)
        rw [show smF (fun s => cdN T s * fxB s) 0 = 0 from rfl, Int.add_zero] at R
        exact R
      · have I := ih (s + 1) (si + 1) (by omega) (by omega) (by omega)
        have e1 := hy si (by omega) (by omega)
        have e2 := fa s (by omega)
        rw [← q2] at e2
        refine ⟨by omega, ?_⟩
        refine ⟨by omega, ?_⟩
        rw [e1, e2, q2]
        have es : smF (fun s => cyS T s * fxA s) (s + 1) = smF (fun s => cyS T s * fxA s) s + cyS T s * fxA s := rfl
        rw [es, ← Int.add_assoc, q2] at I
        exact I
  exact L4 287 0 0 (by omega) rfl (by omega)
end CBITS
