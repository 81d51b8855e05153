/-! FREEZING: the inodes of a directory's other nodes, the class -/
/-- what putting the rows leaves -/
def cwF (sh : Nat → Option Shp) (M M2 : FM) : Prop := (∀ c : Nat, (c < 17 ∨ c = 21 ∨ 50 ≤ c ∧ c ≤ 63 ∨ 76 ≤ c ∧ c ≤ 87 ∨ 90 ≤ c ∧ c ≤ 93 ∨ 97 ≤ c ∧ c < 265) → M2 c = M c) ∧ (∀ i : Int, i ≠ 13 → i ≠ 14 → M2 18 i = M 18 i) ∧ (∀ c : Nat, 265 ≤ c → (∀ fl, shp sh c ≠ some (.inr (3, fl))) → M2 c = M c) ∧ (∀ (c : Nat) (i : Int), (c = 17 ∨ 265 ≤ c) → i ≠ 15 → M2 c i = M c i) ∧ ∀ c : Nat, (c = 17 ∨ 265 ≤ c) → 0 ≤ M c 15 → 0 ≤ M2 c 15
theorem cwF_r (sh : Nat → Option Shp) (M : FM) : cwF sh M M := ⟨fun _ _ => rfl, fun _ _ _ => rfl, fun _ _ _ => rfl, fun _ _ _ _ => rfl, fun _ _ h => h⟩
theorem cwF_t {sh : Nat → Option Shp} {M M2 M3 : FM} (h : cwF sh M M2) (g : cwF sh M2 M3) : cwF sh M M3 := ⟨fun c hc => (g.1 c hc).trans (h.1 c hc), fun i h1 h2 => (g.2.1 i h1 h2).trans (h.2.1 i h1 h2), fun c hc hf => (g.2.2.1 c hc hf).trans (h.2.2.1 c hc hf), fun c i hc hi => (g.2.2.2.1 c i hc hi).trans (h.2.2.2.1 c i hc hi), fun c hc h0 => g.2.2.2.2 c hc (h.2.2.2.2 c hc h0)⟩
theorem cwF_fz {sh : Nat → Option Shp} {M M2 : FM} (h : cwF sh M M2) : fzF sh M M2 := ⟨fun c hc => h.1 c (by omega), h.2.2.1, fun c i hc hi => h.2.2.2.1 c i hc (by omega)⟩
theorem cwF_o {sh : Nat → Option Shp} {M M2 : FM} (h : ∀ c : Nat, (c < 18 ∨ c = 21 ∨ 50 ≤ c ∧ c ≤ 63 ∨ 76 ≤ c ∧ c ≤ 87 ∨ 90 ≤ c ∧ c ≤ 93 ∨ 97 ≤ c) → M2 c = M c) (h2 : ∀ i : Int, i ≠ 13 → i ≠ 14 → M2 18 i = M 18 i) : cwF sh M M2 := ⟨fun c hc => h c (by omega), h2, fun c hc _ => h c (by omega), fun c i hc _ => by rw [h c (by omega)], fun c hc h0 => by rw [h c (by omega)]; exact h0⟩
/-- what the class has by then -/
def cxC (sh : Nat → Option Shp) (M0 M : FM) (op : Int) (B : Nat) (L ids : List Int) (D : DS) : Prop := treeR sh M0 ∧ fzF sh M0 M ∧ (M 18 2 = L.length ∧ (∀ x ∈ L, M (M0 11 x).toNat 14 = nuO L x) ∧ M 21 1 = M0 11 0) ∧ pkC M ∧ (M 18 16 = B ∧ M 18 17 = op) ∧ idV M ids ∧ rzO M 92 93 8064 (some (idB (dB D))) ∧ ∀ y ∈ L, M0 171 y = 2 → naC M (M0 11 y).toNat (dN D) y
section COTHERS
variable {d nx zl : Nat} {K : Option TV → FH → Prop} {sh : Nat → Option Shp} {M0 M : FM} {op z : Int} {B : Nat} {L ids : List Int} {D : DS}
theorem cxC_w {M2 : FM} (hP : nuP M0 L) (h : cxC sh M0 M op B L ids D) (w : cwF sh M M2) : cxC sh M0 M2 op B L ids D := by
  obtain ⟨hT, hz, ⟨n1, n2, n3⟩, hC, ⟨h16, h17⟩, hi, hb, hn⟩ := h
  have C : ∀ y ∈ L, (M0 11 y).toNat = 17 ∨ 265 ≤ (M0 11 y).toNat := fun y hy => by
    obtain ⟨a, u, v, ea, -, ha3, -⟩ := nd_of hT (hP.2 y hy)
    rw [ea]
    exact ha3
  refine ⟨hT, fzF_t hz (cwF_fz w), ⟨by rw [w.2.1 2 (by decide) (by decide)]; exact n1, fun x hx => by rw [w.2.2.2.1 _ 14 (C x hx) (by decide)]; exact n2 x hx, by rw [w.1 21 (by omega)]; exact n3⟩, pkC_c hC (fun c hc => w.1 c (by omega)), ⟨by rw [w.2.1 16 (by decide) (by decide)]; exact h16, by rw [w.2.1 17 (by decide) (by decide)]; exact h17⟩, idV_F hi (w.1 86 (by omega)) (w.1 87 (by omega)), rzO_F hb (w.1 92 (by omega)) (w.1 93 (by omega)), fun y hy y2 => ?_⟩
  unfold naC
  rw [w.2.2.2.1 _ 16 (C y hy) (by decide), w.2.2.2.1 _ 17 (C y hy) (by decide), w.2.2.2.1 _ 18 (C y hy) (by decide), w.2.2.2.1 _ 19 (C y hy) (by decide)]
  exact hn y hy y2
theorem stI_ap {I Y : List Int} {p : Int} (h0 : 0 ≤ p) (h1 : p ≤ I.length) : stI z (I ++ Y) p = stI z I p := by
  unfold stI
  rw [clG_ap _ (by omega)]
theorem stI_r (I : List Int) {p : Int} (h0 : 0 ≤ p) (h1 : p ≤ 65536) : 0 ≤ stI z I p ∧ stI z I p ≤ 65552 := by
  unfold stI
  have := clG_len (z := z) (R := I) (k := 0) (p / 8192).toNat
  omega
/-- a reference, as the class keeps it -/
def rfO (z : Int) (s : RS) (x : Int) : Int := if rP s x < 0 then -1 else stI z (rI s) (rP s x) * 65536 + rP s x % 8192
/-- where the class is -/
def cjS (M0 M : FM) (z : Int) (L I0 : List Int) (o : Option RS) : Prop := ∃ sI sQ : Option (List Int), (cpO M 68 70 71 69 19 20 131072 z (some I0) sI ∧ cpO M 72 74 75 73 88 89 65552 z (some []) sQ) ∧ (∀ x ∈ L, -1 ≤ M (M0 11 x).toNat 15 ∧ M (M0 11 x).toNat 15 ≤ 8589942784) ∧ (o = none → sI = none ∨ sQ = none) ∧ ∀ s : RS, o = some s → (sI = some (rI s) ∧ sQ = some (rQ s)) ∧ (∀ x ∈ L, M (M0 11 x).toNat 15 = rfO z s x) ∧ ∀ x : Int, -1 ≤ rP s x ∧ rP s x ≤ (rI s).length
theorem cputInode_Y {x : Int} {a : Nat} {sI : Option (List Int)} (hs : sxC M0 op B L ids D) (hc : cxC sh M0 M op B L ids D) (hx : x ∈ L) (ha : M0 11 x = a) (hk : M0 171 x ≠ 1) (h70 : 0 ≤ M 70 1 ∧ M 70 1 ≤ 65536) (h69 : 0 ≤ M 69 (M 70 1 / 8192) ∧ M 69 (M 70 1 / 8192) ≤ 131072) (hI : rzO M 70 71 65536 sI)
    (k : ∀ M2 : FM, inF M M2 a → rzO M2 70 71 65536 (apO 65536 sI (nnB M0 ids L D x)) → K none (sh, M2, nx, zl)) : fm_Y (d + 6) 107 [.ref 18, .ref 8, .ref a] (sh, M, nx, zl) K := by
  obtain ⟨hW, hop, hB, hP, -, ⟨i1, i2, i3⟩, ⟨b1, b2, b3⟩, hF⟩ := hs
  obtain ⟨hT, hz, ⟨n1, n2, n3⟩, hC, ⟨h16, h17⟩, hid, hb, hn⟩ := hc
  have xr := (hP.2 x hx).1
  obtain ⟨k1, -, t172, t173, t174, t175, t176⟩ := hW.1.2 x xr.1 xr.2
  obtain ⟨a2, h9, t9, ea, hS, ha3, hE, hFi, hLi, -⟩ := nd_of hT (hP.2 x hx)
  have ea2 : a2 = a := by omega
  rw [ea2] at hS ha3 hE hFi
  have nx2 := n2 x hx
  rw [show (M0 11 x).toNat = a by omega] at nx2
  have nr := nuO_r hx
  have LL := nuP_len hW hP
  have f : ∀ i : Int, i < 14 → M a i = M0 a i := fun i hi => hz.2.2 a i ha3 hi
  obtain ⟨e0, e1, e2, e5, e6, e7, e8, e9, e10⟩ := hE
  have i3x := i3 x hx
  have tb := hW.2.1.2 x xr.1 xr.2
  have tb1 := hW.2.1.1
  have tc := (hW.2.2.2.2.2.2 x xr.1 xr.2).1
  have tcr := cnt_nn (M0 184) x (M0 168 20).toNat
  have n20 := hW.2.2.2.1.1
  have hO : ndO M a ids := by
    unfold ndO
    rw [f 5 (by decide), f 6 (by decide), f 7 (by decide), f 8 (by decide), nx2, e5, e6, e7, e8]
    exact ⟨t172, t173, t174, t175, by omega, i3x.1, i3x.2⟩
  have eC : cmA M a ids = cmR M0 ids L x := by
    funext ty
    unfold cmA cmR
    rw [f 5 (by decide), f 6 (by decide), f 7 (by decide), f 8 (by decide), nx2, e5, e6, e7, e8]
  have v1 : M a 1 = M0 171 x := by rw [f 1 (by decide), e1]
  have v9 : M a 9 = M0 177 x := by rw [f 9 (by decide), e9]
  by_cases c2 : M0 171 x = 2
  · obtain ⟨q1, q2, q3, q4⟩ := hF x hx c2
    have hn2 := hn x hx c2
    rw [show (M0 11 x).toNat = a by omega] at hn2
    obtain ⟨m16, m17, m18, m19⟩ := hn2
    have d0 := b3 0 x
    have d1 := b3 1 x
    have d4 := b3 4 x
    have d5 := b3 5 x
    have s12 : M a 12 = M0 180 x := by
      rw [f 12 (by decide)]
      exact (hFi.2.1 c2).1
    have tb2 := tb.2.1 c2
    refine putInode_r (fb := (dN D 1 x).toNat) (bl := dB D) (n := M0 180 x) hS ha3 hO hid (by omega) hB hop h16 h17 s12 (by omega) (by omega) (by omega) (by omega) hb b1 (by omega) (by rw [← q3]; omega) h70 h69 hI (fun M2 f2 w2 => ?_)
    refine k M2 f2 ?_
    unfold nnB
    rw [if_pos c2]
    rw [eC, v9, ← q3, m16, m18, m19, ← q2] at w2
    exact w2
  · refine putInode_o (T := tgL M0 x) hS ha3 hO hid (by omega) (by omega) ?_ (fun q => ?_) h70 h69 hI (fun M2 f2 w2 => ?_)
    · rw [f 2 (by decide), e2]
      split <;> omega
    · obtain ⟨r, rb, hr, hD⟩ := hLi.1 (by omega)
      refine ⟨r, rb, hr, ?_⟩
      obtain ⟨⟨s1, s2⟩, ⟨g1, g2, g3⟩, g4, g5, g6⟩ := hD
      have er : M r = M0 r := hz.2.1 r g1 (fun fl q => by rw [s1] at q; cases q)
      have eb : M rb = M0 rb := hz.2.1 rb g2 (fun fl q => by rw [s2] at q; cases q)
      exact ⟨⟨s1, s2⟩, ⟨g1, g2, g3⟩, g4, by rw [er]; exact g5, by rw [eb]; exact g6⟩
    · refine k M2 f2 ?_
      unfold nnB
      rw [if_neg c2]
      have e2' : otB (M a 1) (M a 2) (tgL M0 x) = otB (M0 171 x) (M0 176 x) (tgL M0 x) := by
        rw [v1]
        unfold otB
        by_cases q3 : M0 171 x = 3
        · rw [if_pos q3, if_pos q3]
        · rw [if_neg q3, if_neg q3]
          by_cases q4 : M0 171 x = 4 ∨ M0 171 x = 5
          · rw [if_pos q4, if_pos q4, f 2 (by decide), e2, if_pos q4]
          · rw [if_neg q4, if_neg q4]
      rw [e2', eC, v1, v9] at w2
      exact w2
/-- an inode was put: full pieces closed -/
theorem cls_Y {M2 : FM} {a : Nat} {sI : Option (List Int)} {I0 Y : List Int} (hz : 0 ≤ z ∧ z ≤ 1) (ha : a = 17 ∨ 265 ≤ a) (hC : pkC M) (hI : cpO M 68 70 71 69 19 20 131072 z (some I0) sI) (f2 : inF M M2 a) (w2 : rzO M2 70 71 65536 (apO 65536 sI Y))
    (k : ∀ M3 : FM, clF M2 M3 68 69 19 20 → cpO M3 68 70 71 69 19 20 131072 z (some I0) (apO 65536 sI Y) → K none (sh, M3, nx, zl)) : fm_Y (d + 6) 117 [.ref 68, .ref 22, .int (Int32.ofInt z), .ref 19, .int (Int32.ofInt 8192)] (sh, M2, nx, zl) K := by
  obtain ⟨h1, ⟨k0, hK, hk0⟩, ht, h4⟩ := hI
  have e : ∀ c : Nat, c ≠ 70 → c ≠ 71 → c < 265 → c ≠ 17 → M2 c = M c := fun c c1 c2 c3 c4 => f2.1 c c1 c2 (by omega)
  refine close_cp (t0 := some I0) (k0 := k0) (ps68 sh) (row19 sh) (Or.inl ⟨rfl, rfl⟩) (pkC_c hC (fun c hc => e c (by omega) (by omega) (by omega) (by omega))) hz w2 ?_ (rzT_F ht (e 19 (by omega) (by omega) (by omega) (by omega)) (e 20 (by omega) (by omega) (by omega) (by omega))) (fun C2 hC2 => ?_) (fun M3 f3 _ w3 => k M3 f3 w3)
  · unfold cpK
    rw [e 68 (by omega) (by omega) (by omega) (by omega), e 69 (by omega) (by omega) (by omega) (by omega)]
    exact hK
  · cases sI with
    | none => cases hC2
    | some C =>
      obtain ⟨b1, b2, b3⟩ := h4 C rfl
      have ek : k0 = C.length / 8192 := by
        have := hK.1
        omega
      by_cases fit : C.length + Y.length ≤ 65536
      · rw [apO_fit fit] at hC2
        rw [← Option.some.inj hC2]
        have ea : ∀ i : Nat, i ≤ k0 → clG z (C ++ Y) 0 i = clG z C 0 i := fun i hi => clG_ap i (by omega)
        refine ⟨by rw [List.length_append]; omega, fun i hi => ?_, ?_⟩
        · rw [e 69 (by omega) (by omega) (by omega) (by omega), ea i hi]
          exact b2 i (by omega)
        · rw [ea k0 (Nat.le_refl _), ek]
          exact rzO_F b3 (e 19 (by omega) (by omega) (by omega) (by omega)) (e 20 (by omega) (by omega) (by omega) (by omega))
      · rw [apO_not fit] at hC2
        cases hC2
/-- what holds behind it -/
theorem cj_in {M2 M3 : FM} {y : Int} {a : Nat} {sI : Option (List Int)} {I0 Y : List Int} (hT : treeR sh M0) (hP : nuP M0 L) (hy : y ∈ L) (ha : M0 11 y = a) (hI : cpO M 68 70 71 69 19 20 131072 z (some I0) sI) (f2 : inF M M2 a) (f3 : clF M2 M3 68 69 19 20) : cwF sh M M3 ∧ (∀ c : Nat, (72 ≤ c ∧ c ≤ 75 ∨ 88 ≤ c ∧ c ≤ 89 ∨ c = 96) → M3 c = M c) ∧ (∀ x ∈ L, x ≠ y → M3 (M0 11 x).toNat 15 = M (M0 11 x).toNat 15) ∧ (0 ≤ M3 a 15 ∧ M3 a 15 ≤ 8589942784) ∧ ∀ I : List Int, sI = some I → M3 a 15 = stI z (I ++ Y) I.length * 65536 + (I.length : Int) % 8192 := by
  obtain ⟨b, u, v, eb, hS, hb3, -⟩ := nd_of hT (hP.2 y hy)
  have ea2 : b = a := by omega
  rw [ea2] at hS hb3
  obtain ⟨h1, ⟨k0, hK, hk0⟩, -, h4⟩ := hI
  have ea : M3 a = M2 a := f3.1 a (by omega) (by omega) (by omega) (by omega) (by omega)
  have q := h1.1
  have hk8 := hK.2.1
  have h69 := hK.2.2 (M 70 1 / 8192).toNat (by omega)
  rw [show (((M 70 1 / 8192).toNat : Nat) : Int) = M 70 1 / 8192 by omega] at h69
  have e15 : M3 a 15 = M 69 (M 70 1 / 8192) * 65536 + M 70 1 % 8192 := by rw [ea]; exact f2.2.2
  refine ⟨⟨fun c hc => ?_, fun i i1 i2 => ?_, fun c hc hf => ?_, fun c i hc hi => ?_, fun c hc h0 => ?_⟩, fun c hc => ?_, fun x hx hne => ?_, by omega, fun I hI => ?_⟩
  · rw [f3.1 c (by omega) (by omega) (by omega) (by omega) (by omega), f2.1 c (by omega) (by omega) (by omega)]
  · rw [f3.1 18 (by omega) (by omega) (by omega) (by omega) (by omega), f2.1 18 (by omega) (by omega) (by omega)]
  · rw [f3.1 c (by omega) (by omega) (by omega) (by omega) (by omega), f2.1 c (by omega) (by omega) (fun q2 => by rw [q2] at hf; exact hf _ hS)]
  · rw [f3.1 c (by omega) (by omega) (by omega) (by omega) (by omega)]
    by_cases q2 : c = a
    · rw [q2, f2.2.1 i hi]
    · rw [f2.1 c (by omega) (by omega) q2]
  · by_cases q2 : c = a
    · rw [q2]
      omega
    · rw [f3.1 c (by omega) (by omega) (by omega) (by omega) (by omega), f2.1 c (by omega) (by omega) q2]
      exact h0
  · rw [f3.1 c (by omega) (by omega) (by omega) (by omega) (by omega), f2.1 c (by omega) (by omega) (by omega)]
  · obtain ⟨b2, u2, v2, eb2, -, hb4, -⟩ := nd_of hT (hP.2 x hx)
    have ne : (M0 11 x).toNat ≠ a := fun q2 => hne (ndc_inj hT (hP.2 x hx) (hP.2 y hy) (by omega))
    rw [f3.1 _ (by omega) (by omega) (by omega) (by omega) (by omega), f2.1 _ (by omega) (by omega) ne]
  · have q2 : M 70 1 = I.length := by
      rw [hI] at h1
      exact h1.2.1
    obtain ⟨b1, b2, -⟩ := h4 I hI
    have s := b2 (I.length / 8192) (Nat.le_refl _)
    rw [e15, q2, show (I.length : Int) / 8192 = ((I.length / 8192 : Nat) : Int) by omega, s, stI_ap (by omega) (by omega)]
    unfold stI
    rw [show ((I.length : Int) / 8192).toNat = I.length / 8192 by omega]
/-- an inode more -/
theorem cjS_put {M2 M3 : FM} {y : Int} {a : Nat} {sI sQ : Option (List Int)} {I0 Y : List Int} {o : Option RS} (hT : treeR sh M0) (hP : nuP M0 L) (hy : y ∈ L) (ha : M0 11 y = a) (hI : cpO M 68 70 71 69 19 20 131072 z (some I0) sI) (hQ : cpO M 72 74 75 73 88 89 65552 z (some []) sQ) (hr : ∀ x ∈ L, -1 ≤ M (M0 11 x).toNat 15 ∧ M (M0 11 x).toNat 15 ≤ 8589942784) (hn : o = none → sI = none ∨ sQ = none) (ho : ∀ s : RS, o = some s → (sI = some (rI s) ∧ sQ = some (rQ s)) ∧ (∀ x ∈ L, M (M0 11 x).toNat 15 = rfO z s x) ∧ ∀ x : Int, -1 ≤ rP s x ∧ rP s x ≤ (rI s).length) (f2 : inF M M2 a) (f3 : clF M2 M3 68 69 19 20) (w3 : cpO M3 68 70 71 69 19 20 131072 z (some I0) (apO 65536 sI Y)) : cjS M0 M3 z L I0 (o.bind (fun s => rput s y Y)) := by
  obtain ⟨c1, c2, c3, c4, c5⟩ := cj_in (Y := Y) hT hP hy ha hI f2 f3
  refine ⟨apO 65536 sI Y, sQ, ⟨w3, cpO_F hQ (c2 72 (by omega)) (c2 74 (by omega)) (c2 75 (by omega)) (c2 73 (by omega)) (c2 88 (by omega)) (c2 89 (by omega))⟩, fun x hx => ?_, ?_, ?_⟩
  · by_cases e : x = y
    · rw [e, ha, Int.toNat_natCast]
      omega
    · rw [c3 x hx e]
      exact hr x hx
  · cases o with
    | none =>
      intro _
      rcases hn rfl with q | q
      · exact Or.inl (by rw [q]; rfl)
      · exact Or.inr q
    | some s =>
      intro q
      obtain ⟨⟨s1, s2⟩, s3, s4⟩ := ho s rfl
      have q2 : rput s y Y = none := q
      unfold rput at q2
      by_cases fit : (rI s).length + Y.length ≤ 65536
      · rw [if_pos fit] at q2
        cases q2
      · rw [s1, apO_not fit]
        exact Or.inl rfl
  · intro s2' q
    cases o with
    | none => cases q
    | some s =>
      obtain ⟨⟨s1, s2⟩, s3, s4⟩ := ho s rfl
      have q2 : rput s y Y = some s2' := q
      unfold rput at q2
      by_cases fit : (rI s).length + Y.length ≤ 65536
      · rw [if_pos fit] at q2
        rw [← Option.some.inj q2]
        refine ⟨⟨by rw [s1, apO_fit fit]; rfl, s2⟩, fun x hx => ?_, fun x => ?_⟩
        · by_cases e : x = y
          · rw [e, ha, show ((a : Nat) : Int).toNat = a by omega, c5 (rI s) s1]
            unfold rfO
            show _ = if upP (rP s) y (rI s).length y < 0 then -1 else stI z (rI s ++ Y) (upP (rP s) y (rI s).length y) * 65536 + upP (rP s) y (rI s).length y % 8192
            rw [upP_at, if_neg (by omega)]
          · rw [c3 x hx e, s3 x hx]
            unfold rfO
            show _ = if upP (rP s) y (rI s).length x < 0 then -1 else stI z (rI s ++ Y) (upP (rP s) y (rI s).length x) * 65536 + upP (rP s) y (rI s).length x % 8192
            rw [upP_ne e]
            have s4x := s4 x
            by_cases p : rP s x < 0
            · rw [if_pos p, if_pos p]
            · rw [if_neg p, if_neg p, stI_ap (by omega) (by omega)]
        · show -1 ≤ upP (rP s) y (rI s).length x ∧ upP (rP s) y (rI s).length x ≤ ((rI s ++ Y).length : Nat)
          have s4x := s4 x
          rw [List.length_append]
          by_cases e : x = y
          · rw [e, upP_at]
            omega
          · rw [upP_ne e]
            omega
      · rw [if_neg fit] at q2
        cases q2
theorem putOthers_Y {x : Int} {a : Nat} {I0 : List Int} {o : Option RS} (hs : sxC M0 op B L ids D) (hc : cxC sh M0 M op B L ids D) (hx : x ∈ L) (ha : M0 11 x = a) (hd : ∀ j : Nat, j < ec M0 x → M0 171 (M0 184 (fe M0 x + j)) = 1 → 0 ≤ M (ceC M0 x j) 15) (hJ : cjS M0 M (1 - op % 2) L I0 o)
    (k : ∀ M2 : FM, cwF sh M M2 → M2 96 = M 96 → cjS M0 M2 (1 - op % 2) L I0 (rsOt M0 ids L D (fe M0 x) (ec M0 x) o) → (∀ j : Nat, j < ec M0 x → 0 ≤ M2 (ceC M0 x j) 15) → K none (sh, M2, nx, zl)) : fm_Y (d + 7) 106 [.ref 18, .ref 8, .ref a] (sh, M, nx, zl) K := by
  have hs0 := hs
  obtain ⟨hW, hop, hB, hP, ⟨-, hcl⟩, -, -, -⟩ := hs
  have hT := hc.1
  have hz := hc.2.1
  obtain ⟨a2, h9, t9, ea, hS, ha3, hE, -⟩ := nd_of hT (hP.2 x hx)
  have ea2 : a2 = a := by omega
  rw [ea2] at hS ha3 hE
  have n20 := hT.1.2.2.2.1.1
  have nN := hT.1.1.1
  have xr := (hP.2 x hx).1
  have er := fe_r hT.1 x
  have z01 : 0 ≤ 1 - op % 2 ∧ 1 - op % 2 ≤ 1 := by omega
  have ba : M a 10 = (ec M0 x : Nat) := by
    rw [hz.2.2 a 10 ha3 (by decide)]
    have q1 := hE.2.2.2.2.2.2.2.2
    have q2 := (cnt_nn (M0 183) x (M0 168 20).toNat).1
    unfold ec
    omega
  have LOOP : ∀ (N j : Nat) (M1 : FM) (y5 : Option TV), ec M0 x - j < N → j ≤ ec M0 x → cwF sh M M1 → M1 96 = M 96 → cjS M0 M1 (1 - op % 2) L I0 (rsOt M0 ids L D (fe M0 x) j o) → (∀ i : Nat, i < j → 0 ≤ M1 (ceC M0 x i) 15) → fm_X (d + 6) kd106 9 [some (fx 18), some (fx 8), some (gr a), some (ti (fe M0 x)), some (ti (fe M0 x + j)), y5] [] (sh, M1, nx, zl) K := by
    intro N
    induction N with
    | zero =>
      intro j M1 y5 hN
      omega
    | succ N ih =>
      intro j M1 y5 hN hj f1 h96 J1 p1
      have e10 : M1 a 10 = (ec M0 x : Nat) := by
        rw [f1.2.2.2.1 a 10 ha3 (by decide)]
        exact ba
      refine s106_9 (d + 6) K _ _ _ ?_
      refine ⟨_, hS, ?_⟩
      refine ⟨by omega, fun w => ?_, fun w => ?_⟩
      · have e : j = ec M0 x := by omega
        rw [e] at J1 p1
        exact k M1 f1 h96 J1 p1
      · have jn : j < ec M0 x := by omega
        obtain ⟨u1, v1, hSc, hc3, hc11, hEc⟩ := ce_of (x := x) hT jn
        obtain ⟨c, hcc⟩ : ∃ c : Nat, c = ceC M0 x j := ⟨_, rfl⟩
        rw [← hcc] at hSc hc3 hc11 hEc
        obtain ⟨y, hy⟩ : ∃ y : Int, y = M0 184 (fe M0 x + j) := ⟨_, rfl⟩
        have yL : y ∈ L := by rw [hy]; exact hcl x hx j jn
        rw [← hy] at hc11 hEc
        have e13 : M1 13 (fe M0 x + j) = (c : Nat) := by
          rw [f1.1 13 (by omega), hz.1 13 (by omega), (hT.2.2.2.1 (fe M0 x + j) (by omega) (by omega)).2.1, ← hy]
          exact hc11
        refine ⟨by omega, fun m hm => ?_, fun hm => by omega⟩
        have em : m = c := by omega
        rw [em]
        refine ⟨_, hSc, ?_⟩
        obtain ⟨sI, sQ, ⟨hI, hQ⟩, hr, hn, ho⟩ := J1
        have ry := hr y yL
        rw [show (M0 11 y).toNat = c by omega] at ry
        have eS : rsOt M0 ids L D (fe M0 x) (j + 1) o = (rsOt M0 ids L D (fe M0 x) j o).bind (fun s => if rP s y < 0 then rput s y (nnB M0 ids L D y) else some s) := by
          rw [hy]
          rfl
        -- the next
        have NXT : ∀ (M3 : FM), cwF sh M1 M3 → M3 96 = M1 96 → 0 ≤ M3 c 15 → cjS M0 M3 (1 - op % 2) L I0 (rsOt M0 ids L D (fe M0 x) (j + 1) o) → b106_68 (d + 6) (fW (d + 6) kd106 K) K [some (fx 18), some (fx 8), some (gr a), some (ti (fe M0 x)), some (ti (fe M0 x + j)), some (gr c)] [] (sh, M3, nx, zl) := by
          intro M3 f3 g96 hpos J3
          have F := ih (j + 1) M3 (some (gr c)) (by omega) (by omega) (cwF_t f1 f3) (by rw [g96]; exact h96) J3 (fun i hi => ?_)
          · rw [show fe M0 x + ((j + 1 : Nat) : Int) = fe M0 x + j + 1 by omega] at F
            exact F
          · by_cases e : i = j
            · rw [e, ← hcc]
              exact hpos
            · obtain ⟨-, -, -, hi3, -⟩ := ce_of (x := x) (j := i) hT (by omega)
              exact f3.2.2.2.2 _ hi3 (p1 i (by omega))
        refine ⟨by omega, fun w2 => ?_, fun w2 => ?_⟩
        · refine NXT M1 (cwF_r sh M1) rfl w2 ?_
          rw [eS]
          refine ⟨sI, sQ, ⟨hI, hQ⟩, hr, ?_, ?_⟩
          · cases ho2 : rsOt M0 ids L D (fe M0 x) j o with
            | none => exact fun _ => hn ho2
            | some s =>
              intro q
              have s3 := (ho s ho2).2.1 y yL
              rw [show (M0 11 y).toNat = c by omega] at s3
              have q2 : (if rP s y < 0 then rput s y (nnB M0 ids L D y) else some s) = none := q
              unfold rfO at s3
              by_cases p : rP s y < 0
              · rw [if_pos p] at s3
                omega
              · rw [if_neg p] at q2
                cases q2
          · intro s2 q
            cases ho2 : rsOt M0 ids L D (fe M0 x) j o with
            | none =>
              rw [ho2] at q
              cases q
            | some s =>
              rw [ho2] at q
              have s3 := (ho s ho2).2.1 y yL
              rw [show (M0 11 y).toNat = c by omega] at s3
              have q2 : (if rP s y < 0 then rput s y (nnB M0 ids L D y) else some s) = some s2 := q
              unfold rfO at s3
              by_cases p : rP s y < 0
              · rw [if_pos p] at s3
                omega
              · rw [if_neg p] at q2
                rw [← Option.some.inj q2]
                exact ho s ho2
        · have kd : M0 171 y ≠ 1 := fun q => by
            have h1 := hd j jn (by rw [← hy]; exact q)
            have h2 := f1.2.2.2.2 _ (by rw [← hcc]; exact hc3) h1
            rw [← hcc] at h2
            omega
          have q70 := hI.1.1
          obtain ⟨-, ⟨k0, hK, hk0⟩, -, -⟩ := id hI
          have hk8 := hK.2.1
          have h69 := hK.2.2 (M1 70 1 / 8192).toNat (by omega)
          rw [show (((M1 70 1 / 8192).toNat : Nat) : Int) = M1 70 1 / 8192 by omega] at h69
          have c1 := cxC_w hP hc f1
          refine cputInode_Y (d := d) hs0 c1 yL hc11 kd q70 (by omega) hI.1 (fun M2 f2 w2' => ?_)
          refine packsRows_Y (d := d + 5) (op := op) (by rw [f2.1 18 (by omega) (by omega) (by omega)]; exact c1.2.2.2.2.1.2) ?_
          refine cls_Y (d := d) z01 hc3 c1.2.2.2.1 hI f2 w2' (fun M3 f3 w3 => ?_)
          obtain ⟨g1, g2, g3, g4, g5⟩ := cj_in (Y := nnB M0 ids L D y) hT hP yL hc11 hI f2 f3
          refine NXT M3 g1 (g2 96 (by omega)) g4.1 ?_
          have F := cjS_put (Y := nnB M0 ids L D y) hT hP yL hc11 hI hQ hr hn ho f2 f3 w3
          rw [eS]
          cases ho2 : rsOt M0 ids L D (fe M0 x) j o with
          | none =>
            rw [ho2] at F
            exact F
          | some s =>
            rw [ho2] at F
            have s3 := (ho s ho2).2.1 y yL
            have s4 := (ho s ho2).2.2 y
            rw [show (M0 11 y).toNat = c by omega] at s3
            have p : rP s y < 0 := by
              unfold rfO at s3
              by_cases p : rP s y < 0
              · exact p
              · rw [if_neg p] at s3
                have sI1 : (rI s).length ≤ 65536 := by
                  have := hI.1
                  rw [((ho s ho2).1).1] at this
                  have q := this.2.1
                  omega
                have := stI_r (z := 1 - op % 2) (rI s) (p := rP s y) (by omega) (by omega)
                omega
            show cjS M0 M3 (1 - op % 2) L I0 (if rP s y < 0 then rput s y (nnB M0 ids L D y) else some s)
            rw [if_pos p]
            exact F
  refine m106 [fx 18, fx 8, gr a] ?_
  have fx1 : fe M x = fe M0 x := by
    unfold fe
    rw [hz.1 168 (by omega), hz.1 183 (by omega)]
  refine first_Y (d := d + 3) (F := x) (treeR_fz hT hz) hS (by rw [hz.2.2 a 0 ha3 (by decide)]; exact hE.1) (by omega) ?_
  rw [fx1]
  have F := LOOP (ec M0 x + 1) 0 M none (by omega) (by omega) (cwF_r sh M) rfl hJ (fun i hi => by omega)
  rw [show fe M0 x + ((0 : Nat) : Int) = fe M0 x by omega] at F
  exact F
end COTHERS
