/-! FREEZING: the walk through the directories, the class -/
theorem ixL_cg {g g2 : Nat → ENt} (h : ∀ j : Nat, lnm (g2 j) = lnm (g j)) : ∀ l : List (Int × Int × Nat), ixL g2 l = ixL g l
  | [] => rfl
  | p :: r => by
    show ixB p.1 p.2.1 (lnm (g2 p.2.2)) ++ ixL g2 r = ixB p.1 p.2.1 (lnm (g p.2.2)) ++ ixL g r
    rw [h, ixL_cg h r]
/-- how many steps the walk takes -/
def coK (M0 : FM) (fn : Int → Nat) (e : Int) : Nat → Nat
  | 0 => 0
  | j + 1 => if M0 171 (M0 184 (e + j)) = 1 then coK M0 fn e j + 1 + fn (M0 184 (e + j)) else coK M0 fn e j
def coD (M0 : FM) : Nat → Int → Nat
  | 0, _ => 0
  | f + 1, x => coK M0 (coD M0 f) (fe M0 x) (ec M0 x) + 1
theorem coK_mono (M0 : FM) (fn : Int → Nat) (e : Int) (j : Nat) : ∀ i : Nat, coK M0 fn e j ≤ coK M0 fn e (j + i)
  | 0 => Nat.le_refl _
  | i + 1 => by
    have h := coK_mono M0 fn e j i
    show coK M0 fn e j ≤ (if M0 171 (M0 184 (e + ((j + i : Nat) : Int))) = 1 then coK M0 fn e (j + i) + 1 + fn (M0 184 (e + ((j + i : Nat) : Int))) else coK M0 fn e (j + i))
    split <;> omega
theorem coK_le (M0 : FM) (fn : Int → Nat) (e : Int) {j n : Nat} (h : j ≤ n) : coK M0 fn e j ≤ coK M0 fn e n := by
  have := coK_mono M0 fn e j (n - j)
  rw [show j + (n - j) = n by omega] at this
  exact this
theorem coK_skip (M0 : FM) (fn : Int → Nat) (e : Int) (j : Nat) : ∀ i : Nat, (∀ t : Nat, j ≤ t → t < j + i → M0 171 (M0 184 (e + t)) ≠ 1) → coK M0 fn e (j + i) = coK M0 fn e j
  | 0, _ => rfl
  | i + 1, h => by
    show (if M0 171 (M0 184 (e + ((j + i : Nat) : Int))) = 1 then coK M0 fn e (j + i) + 1 + fn (M0 184 (e + ((j + i : Nat) : Int))) else coK M0 fn e (j + i)) = coK M0 fn e j
    rw [if_neg (h (j + i) (by omega) (by omega)), coK_skip M0 fn e j i (fun t h1 h2 => h t h1 (by omega))]
theorem rsK_skip (M0 : FM) (fn : Int → Option RS → Option RS) (e : Int) (o : Option RS) (j : Nat) : ∀ i : Nat, (∀ t : Nat, j ≤ t → t < j + i → M0 171 (M0 184 (e + t)) ≠ 1) → rsK M0 fn e (j + i) o = rsK M0 fn e j o
  | 0, _ => rfl
  | i + 1, h => by
    show (if M0 171 (M0 184 (e + ((j + i : Nat) : Int))) = 1 then fn (M0 184 (e + ((j + i : Nat) : Int))) (rsK M0 fn e (j + i) o) else rsK M0 fn e (j + i) o) = rsK M0 fn e j o
    rw [if_neg (h (j + i) (by omega) (by omega)), rsK_skip M0 fn e o j i (fun t h1 h2 => h t h1 (by omega))]
section CWALK
variable {d nx zl : Nat} {K : Option TV → FH → Prop} {sh : Nat → Option Shp} {M0 M : FM} {op z : Int} {B : Nat} {L ids : List Int} {D : DS}
theorem nextFolder_Y {x δ : Int} {a j0 : Nat} (hT : treeR sh M0) (hz : fzF sh M0 M) (hx : (0 ≤ x ∧ x < M0 168 5) ∧ live M0 x) (ha : M0 11 x = a) (hδ : M0 a 4 = δ) (hd : 0 ≤ δ ∧ δ ≤ 100) (hw : M 96 δ = fe M0 x + j0) (hj : j0 ≤ ec M0 x)
    (k1 : ∀ (j : Nat) (M2 : FM), j0 ≤ j → j < ec M0 x → (∀ t : Nat, j0 ≤ t → t < j → M0 171 (M0 184 (fe M0 x + t)) ≠ 1) → M0 171 (M0 184 (fe M0 x + j)) = 1 → (∀ c : Nat, c ≠ 96 → M2 c = M c) → M2 96 δ = fe M0 x + j + 1 → (∀ i : Int, i ≠ δ → M2 96 i = M 96 i) → K (some (gr (ceC M0 x j))) (sh, M2, nx, zl))
    (k0 : ∀ M2 : FM, (∀ t : Nat, j0 ≤ t → t < ec M0 x → M0 171 (M0 184 (fe M0 x + t)) ≠ 1) → (∀ c : Nat, c ≠ 96 → M2 c = M c) → (∀ i : Int, i ≠ δ → M2 96 i = M 96 i) → K (some nl) (sh, M2, nx, zl)) : fm_Y (d + 4) 105 [.ref 18, .ref 8, .ref a] (sh, M, nx, zl) K := by
  obtain ⟨a2, h9, t9, ea, hS, ha3, hE, -⟩ := nd_of hT hx
  have ea2 : a2 = a := by omega
  rw [ea2] at hS ha3 hE
  have n20 := hT.1.2.2.2.1.1
  have nN := hT.1.1.1
  have er := fe_r hT.1 x
  have e10 : M a 10 = (ec M0 x : Nat) := by
    rw [hz.2.2 a 10 ha3 (by decide)]
    have q1 := hE.2.2.2.2.2.2.2.2
    have q2 := (cnt_nn (M0 183) x (M0 168 20).toNat).1
    unfold ec
    omega
  have e4 : M a 4 = δ := by
    rw [hz.2.2 a 4 ha3 (by decide)]
    exact hδ
  have e13 : M 13 = M0 13 := hz.1 13 (by omega)
  have fx1 : fe M x = fe M0 x := by
    unfold fe
    rw [hz.1 168 (by omega), hz.1 183 (by omega)]
  have LOOP : ∀ (N j : Nat), ec M0 x - j < N → j0 ≤ j → j ≤ ec M0 x → (∀ t : Nat, j0 ≤ t → t < j → M0 171 (M0 184 (fe M0 x + t)) ≠ 1) → fm_X (d + 3) kd105 22 [some (fx 18), some (fx 8), some (gr a), some (ti (fe M0 x + ec M0 x)), some (ti (fe M0 x + j))] [] (sh, M, nx, zl) K := by
    intro N
    induction N with
    | zero =>
      intro j hN
      omega
    | succ N ih =>
      intro j hN h0 hje hno
      refine s105_22 (d + 3) K _ _ _ ?_
      refine ⟨by omega, fun w => ?_, fun w => ?_⟩
      · have e : j = ec M0 x := by omega
        refine ⟨_, hS, ?_⟩
        refine ⟨by omega, ?_⟩
        rw [e] at hno
        obtain ⟨P, gP⟩ : ∃ P : FM, P = um M 96 (ur (M 96) (M a 4) (fe M0 x + ec M0 x)) := ⟨_, rfl⟩
        have F := k0 P hno (fun c hc => by rw [gP, um_ne hc]) (fun i hi => by rw [gP, um_at, ur_ne (by rw [e4]; exact hi)])
        rw [gP] at F
        exact F
      · have jn : j < ec M0 x := by omega
        obtain ⟨u1, v1, hSc, hc3, hc11, hEc⟩ := ce_of (x := x) hT jn
        obtain ⟨c, hcc⟩ : ∃ c : Nat, c = ceC M0 x j := ⟨_, rfl⟩
        rw [← hcc] at hSc hc3 hc11 hEc
        have g13 : M 13 (fe M0 x + j) = (c : Nat) := by
          rw [e13, (hT.2.2.2.1 (fe M0 x + j) (by omega) (by omega)).2.1]
          exact hc11
        have kd : M c 1 = M0 171 (M0 184 (fe M0 x + j)) := by
          rw [hz.2.2 c 1 hc3 (by decide)]
          exact hEc.2.1
        have kr := (hT.1.1.2 (M0 184 (fe M0 x + j)) (by have := ent_live hT.1 (k := fe M0 x + j) (by omega) (by omega); omega) (ent_live hT.1 (k := fe M0 x + j) (by omega) (by omega)).1.2).1
        refine ⟨by omega, fun m hm => ?_, fun hm => by omega⟩
        have em : m = c := by omega
        rw [em]
        refine ⟨_, hSc, ?_⟩
        refine ⟨by omega, fun w2 => ?_, fun w2 => ?_⟩
        · have F := ih (j + 1) (by omega) (by omega) (by omega) (fun t t0 t1 => ?_)
          · rw [show fe M0 x + ((j + 1 : Nat) : Int) = fe M0 x + j + 1 by omega] at F
            exact F
          · by_cases e : t = j
            · rw [e]
              omega
            · exact hno t t0 (by omega)
        · refine ⟨_, hS, ?_⟩
          refine ⟨by omega, ?_⟩
          obtain ⟨P, gP⟩ : ∃ P : FM, P = um M 96 (ur (M 96) (M a 4) (fe M0 x + j + 1)) := ⟨_, rfl⟩
          have po : ∀ c : Nat, c ≠ 96 → P c = M c := fun c hc => by rw [gP, um_ne hc]
          have T : (o_al 1 (o_get 2 4 4 (o_il 4 (o_aald (o_aret K)))) : FC) [some (fx 18), some (fx 8), some (gr a), some (ti (fe M0 x + ec M0 x)), some (ti (fe M0 x + j))] [] (sh, P, nx, zl) := by
            have p13 : P 13 (fe M0 x + j) = (c : Nat) := by rw [po 13 (by omega)]; exact g13
            refine ⟨by omega, fun m2 hm2 => ?_, fun hm2 => by omega⟩
            have em2 : m2 = c := by omega
            rw [em2, hcc]
            exact k1 j P h0 jn hno (by omega) po (by rw [gP, um_at, e4, ur_at]) (fun i hi => by rw [gP, um_at, ur_ne (by rw [e4]; exact hi)])
          rw [gP] at T
          exact T
  refine m105 [fx 18, fx 8, gr a] ?_
  refine first_Y (d := d) (F := x) (treeR_fz hT hz) hS (by rw [hz.2.2 a 0 ha3 (by decide)]; exact hE.1) (by omega) ?_
  rw [fx1]
  refine ⟨_, hS, ?_⟩
  refine ⟨_, hS, ?_⟩
  refine ⟨by omega, ?_⟩
  rw [e10, e4, hw]
  exact LOOP (ec M0 x + 1) j0 (by omega) (by omega) hj (fun t t0 t1 => by omega)
/-- a directory ended: its listing, its inode -/
theorem cfin_J {x : Int} {a : Nat} {M2 M3 M4 M5 : FM} {I0 : List Int} {o : Option RS} {sI sQ : Option (List Int)} {Y : List Int} (hT : treeR sh M0) (hz2 : fzF sh M0 M2) (hP : nuP M0 L) (hx : x ∈ L) (ha : M0 11 x = a) (hnu : ∀ j : Nat, j < ec M0 x → M2 (ceC M0 x j) 14 = nuO L (M0 184 (fe M0 x + j))) (hcl : ∀ j : Nat, j < ec M0 x → M0 184 (fe M0 x + j) ∈ L) (hpos : ∀ j : Nat, j < ec M0 x → 0 ≤ M2 (ceC M0 x j) 15)
    (hI : cpO M2 68 70 71 69 19 20 131072 z (some I0) sI) (hQ : cpO M2 72 74 75 73 88 89 65552 z (some []) sQ) (hr : ∀ x ∈ L, -1 ≤ M2 (M0 11 x).toNat 15 ∧ M2 (M0 11 x).toNat 15 ≤ 8589942784) (hn : o = none → sI = none ∨ sQ = none) (ho : ∀ s : RS, o = some s → (sI = some (rI s) ∧ sQ = some (rQ s)) ∧ (∀ x ∈ L, M2 (M0 11 x).toNat 15 = rfO z s x) ∧ ∀ x : Int, -1 ≤ rP s x ∧ rP s x ≤ (rI s).length)
    (f3 : lwF M2 M3) (h14 : M3 18 14 = M2 74 1) (w3 : cpO M3 72 74 75 73 88 89 65552 z (some []) (lsO z (cgE M0 M2 x) (ec M0 x) sQ)) (h13 : ∀ Q : List Int, sQ = some Q → (lsC (cgE M0 M2 x) (lsS z (cgE M0 M2 x) Q (ec M0 x))).length ≤ 65536 → M3 18 13 = (lX (lsS z (cgE M0 M2 x) Q (ec M0 x))).length ∧ rzO M3 94 95 8192 (some (ixL (cgE M0 M2 x) (lX (lsS z (cgE M0 M2 x) Q (ec M0 x))))))
    (hY : Y = fdB (cmR M0 ids L x) (M3 18 13) (M3 74 1 - M3 18 14 + 3) (M3 73 (M3 18 14 / 8192)) (M3 18 14 % 8192) (paN M0 L x) (foN M0 (fe M0 x) (ec M0 x) + 2) (sl (M3 95) 0 (M3 94 1).toNat)) (f4 : inF M3 M4 a) (f5 : clF M4 M5 68 69 19 20) (w5 : cpO M5 68 70 71 69 19 20 131072 z (some I0) (apO 65536 sI Y)) : cwF sh M2 M5 ∧ M5 96 = M2 96 ∧ cjS M0 M5 z L I0 (rsF M0 z ids L x o) ∧ 0 ≤ M5 a 15 := by
  have hI3 : cpO M3 68 70 71 69 19 20 131072 z (some I0) sI := cpO_F hI (f3.1 68 (by omega)) (f3.1 70 (by omega)) (f3.1 71 (by omega)) (f3.1 69 (by omega)) (f3.1 19 (by omega)) (f3.1 20 (by omega))
  obtain ⟨c1, c2, c3, c4, c5⟩ := cj_in (Y := Y) hT hP hx ha hI3 f4 f5
  have w23 : cwF sh M2 M3 := cwF_o (fun c hc => f3.1 c (by omega)) f3.2
  have N : ∀ y ∈ L, (M0 11 y).toNat = 17 ∨ 265 ≤ (M0 11 y).toNat := fun y hy => by
    obtain ⟨b, u, v, eb, -, hb3, -⟩ := nd_of hT (hP.2 y hy)
    rw [eb]
    exact hb3
  have r3 : ∀ y ∈ L, M3 (M0 11 y).toNat 15 = M2 (M0 11 y).toNat 15 := fun y hy => by
    have := N y hy
    rw [f3.1 _ (by omega)]
  obtain ⟨oL, hoL⟩ : ∃ oL : Option RS, oL = o.bind (fun s => if (lsC (ngE M0 z L s x) (ngT M0 z L s x)).length ≤ 65536 then some (rI s, lsC (ngE M0 z L s x) (ngT M0 z L s x), rP s) else none) := ⟨_, rfl⟩
  -- the same entries
  have G : ∀ s : RS, o = some s → ∀ j : Nat, j < ec M0 x → cgE M0 M2 x j = ngE M0 z L s x j := fun s hs j hj => by
    obtain ⟨⟨s1, s2⟩, s3, s4⟩ := ho s hs
    obtain ⟨u1, v1, hSc, hc3, hc11, hEc⟩ := ce_of (x := x) hT hj
    have yL := hcl j hj
    have p := hpos j hj
    have e15 := s3 _ yL
    have hy4 := s4 (M0 184 (fe M0 x + j))
    rw [show (M0 11 (M0 184 (fe M0 x + j))).toNat = ceC M0 x j from rfl] at e15
    have pp : ¬ rP s (M0 184 (fe M0 x + j)) < 0 := fun q => by
      unfold rfO at e15
      rw [if_pos q] at e15
      omega
    unfold rfO at e15
    rw [if_neg pp] at e15
    unfold cgE ngE
    rw [hnu j hj, hz2.2.2 _ 1 hc3 (by decide), hEc.2.1, e15, show (stI z (rI s) (rP s (M0 184 (fe M0 x + j))) * 65536 + rP s (M0 184 (fe M0 x + j)) % 8192) / 65536 = stI z (rI s) (rP s (M0 184 (fe M0 x + j))) by omega, show (stI z (rI s) (rP s (M0 184 (fe M0 x + j))) * 65536 + rP s (M0 184 (fe M0 x + j)) % 8192) % 65536 = rP s (M0 184 (fe M0 x + j)) % 8192 by omega]
  have LS : ∀ s : RS, o = some s → lsS z (cgE M0 M2 x) (rQ s) (ec M0 x) = ngT M0 z L s x ∧ lsC (cgE M0 M2 x) (ngT M0 z L s x) = lsC (ngE M0 z L s x) (ngT M0 z L s x) := fun s hs => lsS_cg z (rQ s) (ec M0 x) (G s hs)
  have F := cjS_put (Y := Y) (o := oL) (sQ := lsO z (cgE M0 M2 x) (ec M0 x) sQ) hT hP hx ha hI3 w3 (fun y hy => by rw [r3 y hy]; exact hr y hy) ?_ ?_ f4 f5 w5
  · refine ⟨cwF_t w23 c1, by rw [c2 96 (by omega), f3.1 96 (by omega)], ?_, c4.1⟩
    have E : oL.bind (fun s => rput s x Y) = rsF M0 z ids L x o := by
      rw [hoL]
      cases ho1 : o with
      | none => rfl
      | some s =>
        obtain ⟨⟨s1, s2⟩, s3, s4⟩ := ho s ho1
        obtain ⟨l1, l2⟩ := LS s ho1
        show (if (lsC (ngE M0 z L s x) (ngT M0 z L s x)).length ≤ 65536 then some (rI s, lsC (ngE M0 z L s x) (ngT M0 z L s x), rP s) else none : Option RS).bind (fun s => rput s x Y) = if (lsC (ngE M0 z L s x) (ngT M0 z L s x)).length ≤ 65536 ∧ (rI s).length + (fnB M0 z ids L s x).length ≤ 65536 then some (rI s ++ fnB M0 z ids L s x, lsC (ngE M0 z L s x) (ngT M0 z L s x), upP (rP s) x (rI s).length) else none
        by_cases fq : (lsC (ngE M0 z L s x) (ngT M0 z L s x)).length ≤ 65536
        · have h13s := h13 (rQ s) s2 (by rw [l1, l2]; exact fq)
          rw [l1] at h13s
          obtain ⟨g13, g94⟩ := h13s
          have lO : lsO z (cgE M0 M2 x) (ec M0 x) sQ = some (lsC (ngE M0 z L s x) (ngT M0 z L s x)) := by
            rw [s2, lsO_s (by rw [l1, l2]; exact fq), l1, l2]
          rw [lO] at w3
          have g74 : M3 74 1 = (lsC (ngE M0 z L s x) (ngT M0 z L s x)).length := w3.1.2.1
          have q2 : M2 74 1 = (rQ s).length := by
            have := hQ.1
            rw [s2] at this
            exact this.2.1
          obtain ⟨Z, hZ⟩ := lsC_pre z (ngE M0 z L s x) (rQ s) (ec M0 x)
          have hZ2 : lsC (ngE M0 z L s x) (ngT M0 z L s x) = rQ s ++ Z := hZ
          have g73 : M3 73 ((rQ s).length / 8192 : Nat) = stI z (rQ s) (rQ s).length := by
            have := (w3.2.2.2 _ rfl).2.1 ((rQ s).length / 8192) (by rw [hZ2, List.length_append]; omega)
            rw [this, hZ2]
            unfold stI
            rw [show (((rQ s).length : Int) / 8192).toNat = (rQ s).length / 8192 by omega, clG_ap _ (by omega)]
          have eY : Y = fnB M0 z ids L s x := by
            rw [hY, g13, g74, h14, q2, show ((rQ s).length : Int) / 8192 = ((rQ s).length / 8192 : Nat) by omega, g73]
            have g95 : sl (M3 95) 0 (M3 94 1).toNat = ixL (cgE M0 M2 x) (lX (ngT M0 z L s x)) := by
              have h1 : M3 94 1 = (ixL (cgE M0 M2 x) (lX (ngT M0 z L s x))).length := g94.2.1
              rw [h1, Int.toNat_natCast]
              exact g94.2.2.1
            rw [g95, ixL_cg (g := ngE M0 z L s x) (g2 := cgE M0 M2 x) (fun j => rfl)]
            rfl
          rw [if_pos fq, eY]
          show rput (rI s, lsC (ngE M0 z L s x) (ngT M0 z L s x), rP s) x (fnB M0 z ids L s x) = _
          unfold rput
          show (if (rI s).length + (fnB M0 z ids L s x).length ≤ 65536 then some (rI s ++ fnB M0 z ids L s x, lsC (ngE M0 z L s x) (ngT M0 z L s x), upP (rP s) x (rI s).length) else none : Option RS) = _
          by_cases fi : (rI s).length + (fnB M0 z ids L s x).length ≤ 65536
          · rw [if_pos fi, if_pos ⟨fq, fi⟩]
          · rw [if_neg fi, if_neg (fun q => fi q.2)]
        · rw [if_neg fq, if_neg (fun q => fq q.1)]
          rfl
    rw [E] at F
    exact F
  · intro q
    rw [hoL] at q
    cases ho1 : o with
    | none =>
      rcases hn ho1 with q2 | q2
      · exact Or.inl q2
      · rw [q2]
        exact Or.inr rfl
    | some s =>
      rw [ho1] at q
      obtain ⟨⟨s1, s2⟩, s3, s4⟩ := ho s ho1
      obtain ⟨l1, l2⟩ := LS s ho1
      have q2 : (if (lsC (ngE M0 z L s x) (ngT M0 z L s x)).length ≤ 65536 then some (rI s, lsC (ngE M0 z L s x) (ngT M0 z L s x), rP s) else none : Option RS) = none := q
      by_cases fq : (lsC (ngE M0 z L s x) (ngT M0 z L s x)).length ≤ 65536
      · rw [if_pos fq] at q2
        cases q2
      · rw [s2, lsO_x (by rw [l1, l2]; exact fq)]
        exact Or.inr rfl
  · intro s' q
    rw [hoL] at q
    cases ho1 : o with
    | none =>
      rw [ho1] at q
      cases q
    | some s =>
      rw [ho1] at q
      obtain ⟨⟨s1, s2⟩, s3, s4⟩ := ho s ho1
      obtain ⟨l1, l2⟩ := LS s ho1
      have q2 : (if (lsC (ngE M0 z L s x) (ngT M0 z L s x)).length ≤ 65536 then some (rI s, lsC (ngE M0 z L s x) (ngT M0 z L s x), rP s) else none : Option RS) = some s' := q
      by_cases fq : (lsC (ngE M0 z L s x) (ngT M0 z L s x)).length ≤ 65536
      · rw [if_pos fq] at q2
        rw [← Option.some.inj q2]
        refine ⟨⟨s1, ?_⟩, fun y hy => by rw [r3 y hy]; exact s3 y hy, s4⟩
        rw [s2, lsO_s (by rw [l1, l2]; exact fq), l1, l2]
        rfl
      · rw [if_neg fq] at q2
        cases q2
end CWALK
