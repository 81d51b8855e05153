/-! FREEZING: a listing, the class: an entry -/
/-- the pieces closed so far: how many, where they begin -/
def cpK (M : FM) (q st k : Nat) : Prop := M q 2 = k ∧ k ≤ 8 ∧ ∀ i : Nat, i ≤ k → 0 ≤ M st i ∧ M st i ≤ 8194 * (i : Int)
def cpS (M : FM) (st : Nat) (z : Int) (C : List Int) (k : Nat) : Prop := ∀ i : Nat, i ≤ k → M st i = (clG z C 0 i).length
/-- a row that is no shorter than t0 -/
def tLB (t0 t : Option (List Int)) : Prop := ∀ X0 X : List Int, t0 = some X0 → t = some X → X0.length ≤ X.length
theorem tLB_ap {t0 t : Option (List Int)} {n : Nat} {Y : List Int} (h : tLB t0 t) : tLB t0 (apO n t Y) := by
  intro X0 X h0 hX
  cases t with
  | none => cases hX
  | some Z =>
    have l := h X0 Z h0 rfl
    by_cases c : Z.length + Y.length ≤ n
    · rw [apO_fit c] at hX
      rw [← Option.some.inj hX, List.length_append]
      omega
    · rw [apO_not c] at hX
      cases hX
theorem tLB_0 {t0 : Option (List Int)} {n : Nat} {Y : List Int} : tLB t0 (apO n t0 Y) := tLB_ap (fun X0 X h0 hX => by rw [h0] at hX; rw [Option.some.inj hX]; exact Nat.le_refl _)
def rzT (M : FM) (ta tb nt : Nat) (t0 : Option (List Int)) : Prop := ∃ t, rzO M ta tb nt t ∧ tLB t0 t
theorem rzT_F {M M2 : FM} {ta tb nt : Nat} {t0 : Option (List Int)} (h : rzT M ta tb nt t0) (h1 : M2 ta = M ta) (h2 : M2 tb = M tb) : rzT M2 ta tb nt t0 := by
  obtain ⟨t, a, b⟩ := h
  exact ⟨t, rzO_F a h1 h2, b⟩
/-- a row of pieces of the class: its bytes, full pieces closed into ta behind t0; none: it ran over -/
def cpO (M : FM) (q r b st ta tb nt : Nat) (z : Int) (t0 s : Option (List Int)) : Prop := rzO M r b 65536 s ∧ (∃ k : Nat, cpK M q st k ∧ M r 1 / 8192 ≤ k) ∧ rzT M ta tb nt t0 ∧ ∀ C : List Int, s = some C → M q 2 = (C.length / 8192 : Nat) ∧ cpS M st z C (C.length / 8192) ∧ rzO M ta tb nt (apO nt t0 (clG z C 0 (C.length / 8192)))
theorem cpO_F {M M2 : FM} {q r b st ta tb nt : Nat} {z : Int} {t0 s : Option (List Int)} (h : cpO M q r b st ta tb nt z t0 s) (h1 : M2 q = M q) (h2 : M2 r = M r) (h3 : M2 b = M b) (h4 : M2 st = M st) (h5 : M2 ta = M ta) (h6 : M2 tb = M tb) : cpO M2 q r b st ta tb nt z t0 s := by
  obtain ⟨a1, ⟨k, ⟨a2, a3, a4⟩, a5⟩, a6, a7⟩ := h
  refine ⟨rzO_F a1 h2 h3, ⟨k, ⟨by rw [h1]; exact a2, a3, fun i hi => by rw [h4]; exact a4 i hi⟩, by rw [h2]; exact a5⟩, rzT_F a6 h5 h6, fun C hC => ?_⟩
  obtain ⟨b1, b2, b3⟩ := a7 C hC
  refine ⟨by rw [h1]; exact b1, fun i hi => by rw [h4]; exact b2 i hi, rzO_F b3 h5 h6⟩
theorem pcY_le (z : Int) (X : List Int) (h : X.length ≤ 8192) : (pcY z X).length ≤ 8194 := by
  have := pcY_len z X
  omega
theorem pcL_le (R : List Int) (k : Nat) : (pcL R k).length ≤ 8192 := by
  unfold pcL
  rw [List.length_take]
  omega
section CCLOSE
variable {d nx zl : Nat} {K : Option TV → FH → Prop} {sh : Nat → Option Shp} {M : FM} {q r b st n ta tb nt : Nat} {z least : Int} {t : Option (List Int)} {k0 : Nat}
theorem close_ok {C : List Int} (hq : psS sh q r b st n) (ht : rowS sh ta tb nt) (htc : tcS ta tb) (hC : pkC M) (hz : 0 ≤ z ∧ z ≤ 1) (hle : 1 ≤ least ∧ least ≤ 8192) (hR : rzO M r b n (some C)) (hk : M q 2 = k0) (hk8 : k0 ≤ 8) (hs : cpS M st z C k0) (hto : rzO M ta tb nt (apO nt t (clG z C 0 k0)))
    (k : ∀ (M2 : FM) (j : Nat), clF M M2 q st ta tb → k0 ≤ j → j ≤ 8 → M2 q 2 = j → cpS M2 st z C j → rzO M2 ta tb nt (apO nt t (clG z C 0 j)) → (∀ i : Nat, k0 ≤ i → i < j → least ≤ (C.length : Int) - 8192 * (i : Int)) → (8 ≤ j ∨ (C.length : Int) - 8192 * (j : Int) < least) → K none (sh, M2, nx, zl)) : fm_Y (d + 6) 117 [.ref q, .ref 22, .int (Int32.ofInt z), .ref ta, .int (Int32.ofInt least)] (sh, M, nx, zl) K := by
  obtain ⟨⟨r1, r2⟩, r3, r4, r5⟩ := id hR
  have lk := clG_len (z := z) (R := C) (k := 0) k0
  have hs0 := hs k0 (Nat.le_refl _)
  refine close_O (k0 := k0) (C := C) (t := apO nt t (clG z C 0 k0)) hq ht htc hC hz hle r3 r4 (by omega) hk hk8 (by rw [hs0]; omega) hto (fun M2 J f2 p2 k8 w2 s1 s2 g1 g2 => ?_)
  refine k M2 (k0 + J) f2 (by omega) k8 p2 ?_ ?_ (fun i i0 i1 => ?_) g2
  · have S : ∀ j : Nat, j ≤ J → M2 st ((k0 + j : Nat) : Int) = (clG z C 0 (k0 + j)).length := by
      intro j
      induction j with
      | zero =>
        intro _
        show M2 st (k0 : Int) = (clG z C 0 k0).length
        rw [s1 k0 (Nat.le_refl _)]
        exact hs0
      | succ j ih =>
        intro hj
        have e := s2 j (by omega)
        rw [ih (by omega)] at e
        show M2 st ((k0 + j + 1 : Nat) : Int) = ((clG z C 0 (k0 + j) ++ pcY z (pcL C (0 + (k0 + j)))).length : Nat)
        rw [e, List.length_append, Nat.zero_add]
        omega
    intro i hi
    by_cases c : i ≤ k0
    · rw [s1 i c]
      exact hs i c
    · have := S (i - k0) (by omega)
      rw [show k0 + (i - k0) = i by omega] at this
      exact this
  · rw [apO_app] at w2
    rw [clG_add, Nat.zero_add]
    exact w2
  · have := g1 (i - k0) (by omega)
    rw [show k0 + (i - k0) = i by omega] at this
    exact this
theorem close_ov (hq : psS sh q r b st n) (ht : rowS sh ta tb nt) (htc : tcS ta tb) (hC : pkC M) (hz : 0 ≤ z ∧ z ≤ 1) (hle : 1 ≤ least ∧ least ≤ 8192) (h1 : 0 ≤ M r 1 ∧ M r 1 ≤ n) (hk : cpK M q st k0) (hto : rzO M ta tb nt t)
    (k : ∀ (M2 : FM) (j : Nat), clF M M2 q st ta tb → k0 ≤ j → cpK M2 q st j → (8 ≤ j ∨ M r 1 - 8192 * (j : Int) < least) → (∃ Y : List Int, rzO M2 ta tb nt (apO nt t Y)) → K none (sh, M2, nx, zl)) : fm_Y (d + 6) 117 [.ref q, .ref 22, .int (Int32.ofInt z), .ref ta, .int (Int32.ofInt least)] (sh, M, nx, zl) K := by
  obtain ⟨c1, c2, c3⟩ := hk
  obtain ⟨C, gC⟩ : ∃ C, C = sl (M b) 0 (M r 1).toNat := ⟨_, rfl⟩
  have lC : C.length = (M r 1).toNat := by rw [gC, sl_len]
  refine close_O (k0 := k0) (C := C) (t := t) hq ht htc hC hz hle (by omega) (by rw [lC]; exact gC.symm) (by omega) c1 c2 (c3 k0 (Nat.le_refl _)) hto (fun M2 J f2 p2 k8 w2 s1 s2 g1 g2 => ?_)
  refine k M2 (k0 + J) f2 (by omega) ⟨p2, k8, ?_⟩ (by omega) ⟨_, w2⟩
  have S : ∀ j : Nat, j ≤ J → 0 ≤ M2 st ((k0 + j : Nat) : Int) ∧ M2 st ((k0 + j : Nat) : Int) ≤ 8194 * ((k0 + j : Nat) : Int) := by
    intro j
    induction j with
    | zero =>
      intro _
      show 0 ≤ M2 st (k0 : Int) ∧ M2 st (k0 : Int) ≤ 8194 * (k0 : Int)
      rw [s1 k0 (Nat.le_refl _)]
      exact c3 k0 (Nat.le_refl _)
    | succ j ih =>
      intro hj
      have e := s2 j (by omega)
      have i1 := ih (by omega)
      have y := pcY_le z (pcL C (k0 + j)) (pcL_le C (k0 + j))
      rw [show k0 + (j + 1) = k0 + j + 1 by omega, e]
      omega
  intro i hi
  by_cases c : i ≤ k0
  · rw [s1 i c]
    exact c3 i c
  · have := S (i - k0) (by omega)
    rw [show k0 + (i - k0) = i by omega] at this
    exact this
/-- full pieces closed -/
theorem close_cp {t0 s2 : Option (List Int)} (hq : psS sh q r b st 65536) (ht : rowS sh ta tb nt) (htc : tcS ta tb) (hC : pkC M) (hz : 0 ≤ z ∧ z ≤ 1) (hR : rzO M r b 65536 s2) (hk : cpK M q st k0) (hto : rzT M ta tb nt t0) (hok : ∀ C : List Int, s2 = some C → k0 ≤ C.length / 8192 ∧ cpS M st z C k0 ∧ rzO M ta tb nt (apO nt t0 (clG z C 0 k0)))
    (k : ∀ M2 : FM, clF M M2 q st ta tb → (k0 : Int) ≤ M2 q 2 → cpO M2 q r b st ta tb nt z t0 s2 → K none (sh, M2, nx, zl)) : fm_Y (d + 6) 117 [.ref q, .ref 22, .int (Int32.ofInt z), .ref ta, .int (Int32.ofInt 8192)] (sh, M, nx, zl) K := by
  obtain ⟨t1, hto, hlb⟩ := hto
  obtain ⟨-, ⟨⟨a1, a2⟩, ⟨b1, b2⟩, ⟨c1, c2⟩, ⟨e1, e2⟩⟩, ⟨n1, n2, n3, n4, n5, n6⟩, -⟩ := id hq
  have T : ta ≠ r ∧ ta ≠ b ∧ tb ≠ r ∧ tb ≠ b := by
    rcases htc with ⟨x1, x2⟩ | ⟨x1, x2⟩ <;> omega
  obtain ⟨u1, u2, u3, u4⟩ := T
  cases s2 with
  | none =>
    refine close_ov hq ht htc hC hz (by omega) hR.1 hk hto (fun M2 j f2 j0 c2 g2 w2 => ?_)
    have er : M2 r = M r := f2.1 r (by omega) (by omega) (by omega) (by omega) (by omega)
    have eb : M2 b = M b := f2.1 b (by omega) (by omega) (by omega) (by omega) (by omega)
    have h1 := hR.1
    obtain ⟨Y, w2⟩ := w2
    refine k M2 f2 (by rw [c2.1]; omega) ⟨rzO_F hR er eb, ⟨j, c2, by rw [er]; omega⟩, ⟨_, w2, tLB_ap hlb⟩, fun C hC => ?_⟩
    cases hC
  | some C =>
    obtain ⟨o1, o2, o3⟩ := hok C rfl
    have h1 := hR.1
    have h2 : M r 1 = C.length := hR.2.1
    refine close_ok (t := t0) hq ht htc hC hz (by omega) hR hk.1 hk.2.1 o2 o3 (fun M2 j f2 j0 j8 p2 s2 w2 g1 g2 => ?_)
    have er : M2 r = M r := f2.1 r (by omega) (by omega) (by omega) (by omega) (by omega)
    have eb : M2 b = M b := f2.1 b (by omega) (by omega) (by omega) (by omega) (by omega)
    have ej : j = C.length / 8192 := by
      by_cases c : j = k0
      · omega
      · have := g1 (j - 1) (by omega) (by omega)
        omega
    rw [ej] at p2 s2 w2
    refine k M2 f2 (by omega) ⟨rzO_F hR er eb, ⟨C.length / 8192, ⟨p2, by omega, fun i hi => ?_⟩, by rw [er]; omega⟩, ⟨_, w2, tLB_0⟩, fun C2 hC2 => ?_⟩
    · rw [s2 i hi]
      have := clG_len (z := z) (R := C) (k := 0) i
      omega
    · have e : C2 = C := (Option.some.inj hC2).symm
      rw [e]
      exact ⟨p2, s2, w2⟩
end CCLOSE
/-- what a listing leaves -/
def lwF (M M2 : FM) : Prop := (∀ c : Nat, (c < 18 ∨ 19 ≤ c ∧ c ≤ 21 ∨ 49 < c ∧ c < 64 ∨ 68 ≤ c ∧ c ≤ 71 ∨ 76 ≤ c ∧ c ≤ 87 ∨ 90 ≤ c ∧ c ≤ 93 ∨ 96 ≤ c) → M2 c = M c) ∧ ∀ i : Int, i ≠ 13 → i ≠ 14 → M2 18 i = M 18 i
theorem lwF_r (M : FM) : lwF M M := ⟨fun _ _ => rfl, fun _ _ _ => rfl⟩
theorem lwF_t {M M2 M3 : FM} (h : lwF M M2) (g : lwF M2 M3) : lwF M M3 := ⟨fun c hc => (g.1 c hc).trans (h.1 c hc), fun i h1 h2 => (g.2 i h1 h2).trans (h.2 i h1 h2)⟩
theorem lwF_fz {sh : Nat → Option Shp} {M M2 : FM} (h : lwF M M2) : fzF sh M M2 := ⟨fun c hc => h.1 c (by omega), fun c hc _ => h.1 c (by omega), fun c i hc _ => by rw [h.1 c (by omega)]⟩
theorem pkC_c {M M2 : FM} (h : pkC M) (e : ∀ c : Nat, (c = 1 ∨ 49 < c ∧ c < 64) → M2 c = M c) : pkC M2 := ⟨by rw [e 1 (by omega)]; exact h.1, cdT_F h.2.1 (e 54 (by omega)) (e 55 (by omega)), cdT_F h.2.2 (e 61 (by omega)) (e 62 (by omega))⟩
/-- the cell of the j-th node of a directory -/
def ceC (M0 : FM) (x : Int) (j : Nat) : Nat := (M0 11 (M0 184 (fe M0 x + j))).toNat
def cgE (M0 M : FM) (x : Int) (j : Nat) : ENt := (M (ceC M0 x j) 15 / 65536, M (ceC M0 x j) 15 % 65536, M (ceC M0 x j) 14, M (ceC M0 x j) 1, nmL M0 (fe M0 x + j))
def ldV (M0 : FM) (x : Int) : Option Nat → TV
  | none => nl
  | some j => gr (ceC M0 x j)
def ptL (h : Nat) (v : Int) (C : List Int) : List Int := C.set h (v % 256)
theorem rz_pt {M M2 : FM} {s : Option (List Int)} {h v : Int} (hr : rzO M 74 75 65536 s) (h0 : 0 ≤ h) (e : M2 74 = M 74) (e1 : h < M 74 1 → M2 75 = ur (M 75) h v) (e2 : ¬ h < M 74 1 → M2 75 = M 75) : rzO M2 74 75 65536 (s.map (ptL h.toNat v)) := by
  cases s with
  | none =>
    refine ⟨by rw [e]; exact hr.1, ?_⟩
    show M2 74 2 = 1
    rw [e]
    exact hr.2
  | some C =>
    obtain ⟨r1, r2, r3, r4⟩ := hr
    refine ⟨by rw [e]; exact r1, ?_⟩
    show M2 74 1 = ((ptL h.toNat v C).length : Nat) ∧ sl (M2 75) 0 (ptL h.toNat v C).length = ptL h.toNat v C ∧ M2 74 2 = 0
    unfold ptL
    rw [e, List.length_set]
    refine ⟨r2, ?_, r4⟩
    by_cases c : h < M 74 1
    · rw [e1 c]
      have l2 : (C.set h.toNat (v % 256)).length = C.length := List.length_set
      rw [← l2]
      refine sl_of (fun i y hy => ?_)
      have hi : i < C.length := by
        have := (List.getElem?_eq_some_iff.1 hy).1
        omega
      have g := sl_get (f := M 75) C.length 0 i hi
      rw [r3, Int.zero_add] at g
      by_cases q : i = h.toNat
      · rw [q, List.getElem?_set_self (by omega)] at hy
        rw [show ((i : Nat) : Int) = h by omega, ur_at]
        exact Option.some.inj hy
      · rw [List.getElem?_set_ne (fun w => q w.symm), g] at hy
        rw [ur_ne (by omega)]
        exact Option.some.inj hy
    · rw [e2 c, List.set_eq_of_length_le (by omega)]
      exact r3
/-- the indexes' bytes -/
def ixL (g : Nat → ENt) : List (Int × Int × Nat) → List Int
  | [] => []
  | p :: r => ixB p.1 p.2.1 (lnm (g p.2.2)) ++ ixL g r
theorem ixL_app (g : Nat → ENt) (p : Int × Int × Nat) : ∀ l : List (Int × Int × Nat), ixL g (l ++ [p]) = ixL g l ++ ixB p.1 p.2.1 (lnm (g p.2.2))
  | [] => by
    show ixB p.1 p.2.1 (lnm (g p.2.2)) ++ [] = [] ++ ixB p.1 p.2.1 (lnm (g p.2.2))
    rw [List.append_nil, List.nil_append]
  | a :: r => by
    show ixB a.1 a.2.1 (lnm (g a.2.2)) ++ ixL g (r ++ [p]) = ixB a.1 a.2.1 (lnm (g a.2.2)) ++ ixL g r ++ _
    rw [ixL_app g p r, List.append_assoc]
/-- what the class settles about an entry: it begins a group -/
def plN (M0 M M1 : FM) (x : Int) (k : Nat) (hd td : Int) (ld : Option Nat) : Prop := ld = none ∨ td = 256 ∨ M1 74 1 / 8192 ≠ hd / 8192 ∨ ∃ j : Nat, ld = some j ∧ ¬ lgo (cgE M0 M x k) (cgE M0 M x j)
section CLISTING
variable {d nx zl : Nat} {K : Option TV → FH → Prop} {sh : Nat → Option Shp} {M0 M : FM} {op : Int} {x : Int} {a : Nat}
theorem ce_of (hT : treeR sh M0) {j : Nat} (hj : j < ec M0 x) : ∃ u v : Option Nat, shp sh (ceC M0 x j) = some (.inr (3, nodeFl u v)) ∧ (ceC M0 x j = 17 ∨ 265 ≤ ceC M0 x j) ∧ M0 11 (M0 184 (fe M0 x + j)) = (ceC M0 x j : Nat) ∧ ndE M0 (M0 184 (fe M0 x + j)) (ceC M0 x j) := by
  have er := fe_r hT.1 x
  have cl := ent_live hT.1 (k := fe M0 x + j) (by omega) (by omega)
  obtain ⟨b, h8, t8, eb, hSb, hb3, hEb, -⟩ := nd_of hT ⟨⟨by omega, cl.1.2⟩, cl.2⟩
  have e : ceC M0 x j = b := by
    unfold ceC
    omega
  rw [e]
  exact ⟨h8, t8, hSb, hb3, eb, hEb⟩
/-- what is asked of a directory's nodes -/
def cgB (M0 M : FM) (x : Int) : Prop := ∀ j : Nat, j < ec M0 x → (-1 ≤ M (ceC M0 x j) 15 ∧ M (ceC M0 x j) 15 ≤ 8589942784) ∧ (0 ≤ M (ceC M0 x j) 14 ∧ M (ceC M0 x j) 14 ≤ 2000)
theorem pl_step {k : Nat} {M1 : FM} {hd td : Int} {ld : Option Nat} {s sX : Option (List Int)} {y9 : Option TV} (hT : treeR sh M0) (hz : fzF sh M0 M) (hx : (0 ≤ x ∧ x < M0 168 5) ∧ live M0 x) (ha : M0 11 x = a) (hpl : lwF M M1) (hk : k < ec M0 x) (hC : pkC M) (hop : 0 ≤ op ∧ op ≤ 15) (h17 : M 18 17 = op) (hb : cgB M0 M x) (hhd : 0 ≤ hd ∧ hd ≤ 65536) (htd : 0 ≤ td ∧ td ≤ 256) (hld : ∀ j : Nat, ld = some j → j < ec M0 x) (h14 : 0 ≤ M1 18 14 ∧ M1 18 14 ≤ 65536) (hX : rzO M1 94 95 8192 sX) (hQ : cpO M1 72 74 75 73 88 89 65552 (1 - op % 2) (some []) s)
    (hcn : ∀ C C2 : List Int, s = some C → (apO 65536 s (lhd 1 (cgE M0 M x k) (enL (cgE M0 M x k) (cgE M0 M x k)))).map (ptL (M1 74 1).toNat 0) = some C2 → C.length ≤ C2.length ∧ ∀ i : Nat, i ≤ C.length / 8192 → clG (1 - op % 2) C2 0 i = clG (1 - op % 2) C 0 i)
    (hco : ∀ (j : Nat) (C C2 : List Int), ¬ plN M0 M M1 x k hd td ld → ld = some j → s = some C → (apO 65536 s (enL (cgE M0 M x k) (cgE M0 M x j))).map (ptL hd.toNat td) = some C2 → C.length ≤ C2.length ∧ ∀ i : Nat, i ≤ C.length / 8192 → clG (1 - op % 2) C2 0 i = clG (1 - op % 2) C 0 i)
    (kn : plN M0 M M1 x k hd td ld → ∀ (M2 : FM) (sX2 : Option (List Int)) (y : Option TV), lwF M1 M2 → M2 18 14 = M1 18 14 → rzO M2 94 95 8192 sX2 → (ld ≠ none ∧ M1 74 1 / 8192 ≠ hd / 8192 → sX2 = apO 8192 sX (ixB (M1 74 1 - M1 18 14) (M1 73 (M1 74 1 / 8192)) (lnm (cgE M0 M x k))) ∧ M2 18 13 = M1 18 13 + 1) → (¬ (ld ≠ none ∧ M1 74 1 / 8192 ≠ hd / 8192) → sX2 = sX ∧ M2 18 13 = M1 18 13) → M1 72 2 ≤ M2 72 2 → cpO M2 72 74 75 73 88 89 65552 (1 - op % 2) (some []) ((apO 65536 s (lhd 1 (cgE M0 M x k) (enL (cgE M0 M x k) (cgE M0 M x k)))).map (ptL (M1 74 1).toNat 0)) → fm_X (d + 6) kd118 48 [some (fx 18), some (fx 8), some (gr a), some (fx 74), some (ti (M1 74 1)), some (ti 1), some (ldV M0 x (some k)), some (ti (fe M0 x)), some (ti (fe M0 x + k + 1)), y] [] (sh, M2, nx, zl) K)
    (ko : ∀ j : Nat, ¬ plN M0 M M1 x k hd td ld → ld = some j → ∀ (M2 : FM) (y : Option TV), lwF M1 M2 → M2 18 14 = M1 18 14 → rzO M2 94 95 8192 sX → M2 18 13 = M1 18 13 → M1 72 2 ≤ M2 72 2 → cpO M2 72 74 75 73 88 89 65552 (1 - op % 2) (some []) ((apO 65536 s (enL (cgE M0 M x k) (cgE M0 M x j))).map (ptL hd.toNat td)) → fm_X (d + 6) kd118 48 [some (fx 18), some (fx 8), some (gr a), some (fx 74), some (ti hd), some (ti (td + 1)), some (ldV M0 x (some j)), some (ti (fe M0 x)), some (ti (fe M0 x + k + 1)), y] [] (sh, M2, nx, zl) K) :
    fm_X (d + 6) kd118 48 [some (fx 18), some (fx 8), some (gr a), some (fx 74), some (ti hd), some (ti td), some (ldV M0 x ld), some (ti (fe M0 x)), some (ti (fe M0 x + k)), y9] [] (sh, M1, nx, zl) K := by
  obtain ⟨a2, h9, t9, ea, hS, ha3, hE, -⟩ := nd_of hT hx
  have ea2 : a2 = a := by omega
  rw [ea2] at hS ha3 hE
  have n20 := hT.1.2.2.2.1.1
  have er := fe_r hT.1 x
  have e10 : M1 a 10 = (ec M0 x : Nat) := by
    rw [hpl.1 a (by omega), hz.2.2 a 10 ha3 (by decide)]
    have q1 := hE.2.2.2.2.2.2.2.2
    have q2 := (cnt_nn (M0 183) x (M0 168 20).toNat).1
    unfold ec
    omega
  obtain ⟨g, hg⟩ : ∃ g : Nat → ENt, g = cgE M0 M x := ⟨_, rfl⟩
  obtain ⟨u1, v1, hSc, hc3, hc11, hEc⟩ := ce_of (x := x) hT hk
  obtain ⟨c, hc⟩ : ∃ c : Nat, c = ceC M0 x k := ⟨_, rfl⟩
  obtain ⟨⟨⟨q1, q2⟩, q3⟩, ⟨k0, hK, hk0⟩, hu, hq4⟩ := id hQ
  have bk := hb k hk
  have z01 : 0 ≤ 1 - op % 2 ∧ 1 - op % 2 ≤ 1 := by omega
  rw [← hc] at hSc hc3 hc11 hEc bk
  -- an entry put, the head told, full pieces closed
  have B186 : ∀ (M3 : FM) (h3 t3 : Int) (j : Nat) (s3 : Option (List Int)), lwF M1 M3 → (M3 72 = M1 72 ∧ M3 73 = M1 73 ∧ M3 88 = M1 88 ∧ M3 89 = M1 89) → j < ec M0 x → (0 ≤ h3 ∧ h3 ≤ 65536) → (0 ≤ t3 ∧ t3 ≤ 255) → rzO M3 74 75 65536 s3 → (∀ C2 : List Int, (apO 65536 s3 (enL (cgE M0 M x k) (cgE M0 M x j))).map (ptL h3.toNat t3) = some C2 → ∃ C : List Int, s = some C ∧ C.length ≤ C2.length ∧ ∀ i : Nat, i ≤ C.length / 8192 → clG (1 - op % 2) C2 0 i = clG (1 - op % 2) C 0 i) → (∀ (M4 : FM), lwF M3 M4 → (M4 94 = M3 94 ∧ M4 95 = M3 95 ∧ M4 18 = M3 18) → M1 72 2 ≤ M4 72 2 → cpO M4 72 74 75 73 88 89 65552 (1 - op % 2) (some []) ((apO 65536 s3 (enL (cgE M0 M x k) (cgE M0 M x j))).map (ptL h3.toNat t3)) → fm_X (d + 6) kd118 48 [some (fx 18), some (fx 8), some (gr a), some (fx 74), some (ti h3), some (ti (t3 + 1)), some (gr (ceC M0 x j)), some (ti (fe M0 x)), some (ti (fe M0 x + k + 1)), some (gr c)] [] (sh, M4, nx, zl) K) → b118_186 (d + 6) (fW (d + 6) kd118 K) K [some (fx 18), some (fx 8), some (gr a), some (fx 74), some (ti h3), some (ti t3), some (gr (ceC M0 x j)), some (ti (fe M0 x)), some (ti (fe M0 x + k)), some (gr c)] [] (sh, M3, nx, zl) := by
    intro M3 h3 t3 j s3 f3 ⟨e72, e73, e88, e89⟩ hj hh ht hs3 hcl kk
    have fT := lwF_t hpl f3
    have z3 := fzF_t hz (lwF_fz (sh := sh) fT)
    have T3 := treeR_fz hT z3
    obtain ⟨u2, v2, hSl, hl3, hl11, hEl⟩ := ce_of (x := x) hT hj
    obtain ⟨l, hl⟩ : ∃ l : Nat, l = ceC M0 x j := ⟨_, rfl⟩
    have bj := hb j hj
    rw [← hl] at hSl hl3 hl11 hEl bj kk ⊢
    obtain ⟨-, -, r, rb, e14, hD⟩ := T3.2.2.2.1 (fe M0 x + k) (by omega) (by rw [z3.1 168 (by omega)]; omega)
    have eN : nmL M3 (fe M0 x + k) = nmL M0 (fe M0 x + k) := by
      unfold nmL
      rw [z3.1 185 (by omega), z3.1 186 (by omega), z3.1 187 (by omega)]
    rw [eN] at hD
    have c3 : M3 c = M c := fT.1 c (by omega)
    have l3 : M3 l = M l := fT.1 l (by omega)
    refine ⟨by omega, fun m hm => ?_, fun hm => by omega⟩
    have em : m = r := by omega
    rw [em]
    have kr := (hT.1.1.2 (M0 184 (fe M0 x + k)) (by have := ent_live hT.1 (k := fe M0 x + k) (by omega) (by omega); omega) (ent_live hT.1 (k := fe M0 x + k) (by omega) (by omega)).1.2).1
    have k1 : M c 1 = M0 171 (M0 184 (fe M0 x + k)) := by
      rw [hz.2.2 c 1 hc3 (by decide)]
      exact hEc.2.1
    refine putEntry_Y (d := d + 3) hSc hc3 hSl hl3 hD (by rw [c3]; omega) (by rw [l3]; omega) (by rw [c3]; omega) hs3 (fun M4 f4 w4 => ?_)
    have eE : enB (M3 c 15) (M3 c 14 - M3 l 14) (M3 c 1) (nmL M0 (fe M0 x + k)) = enL (cgE M0 M x k) (cgE M0 M x j) := by
      rw [c3, l3]
      show _ = enB (M (ceC M0 x k) 15 % 65536) (M (ceC M0 x k) 14 - M (ceC M0 x j) 14) (M (ceC M0 x k) 1) (nmL M0 (fe M0 x + k))
      rw [← hc, ← hl]
      unfold enB
      rw [Int.emod_emod]
    rw [eE] at w4
    obtain ⟨s4, g4⟩ : ∃ s4, s4 = apO 65536 s3 (enL (cgE M0 M x k) (cgE M0 M x j)) := ⟨_, rfl⟩
    rw [← g4] at w4 hcl kk
    -- behind the head's byte
    have B220 : ∀ M5 : FM, (∀ y : Nat, y ≠ 75 → M5 y = M4 y) → (h3 < M4 74 1 → M5 75 = ur (M4 75) h3 ((t3 + 128) % 256 - 128)) → (¬ h3 < M4 74 1 → M5 75 = M4 75) → b118_220 (d + 6) (fW (d + 6) kd118 K) K [some (fx 18), some (fx 8), some (gr a), some (fx 74), some (ti h3), some (ti t3), some (gr l), some (ti (fe M0 x)), some (ti (fe M0 x + k)), some (gr c)] [] (sh, M5, nx, zl) := by
      intro M5 f5 p1 p2
      have o5 : ∀ y : Nat, y ≠ 74 → y ≠ 75 → M5 y = M3 y := fun y y1 y2 => by rw [f5 y y2, f4 y y1 y2]
      have w5 := rz_pt (M2 := M5) w4 hh.1 (f5 74 (by omega)) p1 p2
      have pe : ptL h3.toNat ((t3 + 128) % 256 - 128) = ptL h3.toNat t3 := by
        unfold ptL
        rw [show ((t3 + 128) % 256 - 128) % 256 = t3 % 256 by omega]
      rw [pe] at w5
      have c5 : pkC M5 := pkC_c (pkC_c hC (fun y hy => fT.1 y (by omega))) (fun y hy => o5 y (by omega) (by omega))
      refine packsRows_Y (op := op) (d := d + 5) (by rw [o5 18 (by omega) (by omega), fT.2 17 (by decide) (by decide)]; exact h17) ?_
      have K5 : cpK M5 72 73 k0 := by
        unfold cpK
        rw [o5 72 (by omega) (by omega), o5 73 (by omega) (by omega), e72, e73]
        exact hK
      refine close_cp (t0 := some []) (k0 := k0) (ps72 sh) (row88 sh) (Or.inr ⟨rfl, rfl⟩) c5 z01 w5 K5 ?_ (fun C2 hC2 => ?_) (fun M6 f6 kk6 w6 => ?_)
      · exact rzT_F hu (by rw [o5 88 (by omega) (by omega), e88]) (by rw [o5 89 (by omega) (by omega), e89])
      · obtain ⟨C, hs, hle, hcg⟩ := hcl C2 hC2
        obtain ⟨b1, b2, b3⟩ := hq4 C hs
        have ek : k0 = C.length / 8192 := by
          have := hK.1
          omega
        refine ⟨by omega, fun i hi => ?_, ?_⟩
        · rw [o5 73 (by omega) (by omega), e73, hcg i (by omega)]
          exact b2 i (by omega)
        · rw [ek, hcg _ (Nat.le_refl _)]
          exact rzO_F b3 (by rw [o5 88 (by omega) (by omega), e88]) (by rw [o5 89 (by omega) (by omega), e89])
      · have f36 : lwF M3 M6 := ⟨fun y hy => by rw [f6.1 y (by omega) (by omega) (by omega) (by omega) (by omega), o5 y (by omega) (by omega)], fun i _ _ => by rw [f6.1 18 (by omega) (by omega) (by omega) (by omega) (by omega), o5 18 (by omega) (by omega)]⟩
        exact kk M6 f36 ⟨by rw [f6.1 94 (by omega) (by omega) (by omega) (by omega) (by omega), o5 94 (by omega) (by omega)], by rw [f6.1 95 (by omega) (by omega) (by omega) (by omega) (by omega), o5 95 (by omega) (by omega)], by rw [f6.1 18 (by omega) (by omega) (by omega) (by omega) (by omega), o5 18 (by omega) (by omega)]⟩ (by rw [hK.1]; exact kk6) w6
    have r4 := w4.1
    refine ⟨by omega, fun w => ?_, fun w => ?_⟩
    · exact B220 M4 (fun _ _ => rfl) (fun w2 => by omega) (fun _ => rfl)
    · refine ⟨by omega, ?_⟩
      obtain ⟨P, gP⟩ : ∃ P : FM, P = um M4 75 (ur (M4 75) h3 ((t3 + 128) % 256 - 128)) := ⟨_, rfl⟩
      have F := B220 P (fun y hy => by rw [gP, um_ne hy]) (fun _ => by rw [gP, um_at]) (fun w2 => by omega)
      rw [gP] at F
      exact F
  -- a new head
  have B146 : ∀ (M3 : FM) (sX3 : Option (List Int)), (∀ y : Nat, y ≠ 18 → y ≠ 94 → y ≠ 95 → M3 y = M1 y) → (∀ i : Int, i ≠ 13 → M3 18 i = M1 18 i) → rzO M3 94 95 8192 sX3 → plN M0 M M1 x k hd td ld → (ld ≠ none ∧ M1 74 1 / 8192 ≠ hd / 8192 → sX3 = apO 8192 sX (ixB (M1 74 1 - M1 18 14) (M1 73 (M1 74 1 / 8192)) (lnm (cgE M0 M x k))) ∧ M3 18 13 = M1 18 13 + 1) → (¬ (ld ≠ none ∧ M1 74 1 / 8192 ≠ hd / 8192) → sX3 = sX ∧ M3 18 13 = M1 18 13) → b118_146 (d + 6) (fW (d + 6) kd118 K) K [some (fx 18), some (fx 8), some (gr a), some (fx 74), some (ti hd), some (ti td), some (ldV M0 x ld), some (ti (fe M0 x)), some (ti (fe M0 x + k)), some (gr c)] [] (sh, M3, nx, zl) := by
    intro M3 sX3 o3 n3 x3 hN i1 i2
    have e74 : M3 74 = M1 74 := o3 74 (by omega) (by omega) (by omega)
    have w3 : rzO M3 74 75 65536 s := rzO_F hQ.1 e74 (o3 75 (by omega) (by omega) (by omega))
    have cM : M1 c = M c := hpl.1 c (by omega)
    have c3 : M3 c = M c := by rw [o3 c (by omega) (by omega) (by omega), cM]
    have hl4 : M3 74 1 = M1 74 1 := by rw [e74]
    have T : (o_is 4 (o_ic 0 (o_is 5 (o_al 9 (o_as 6 (o_al 3 (o_ic 0 (o_callv (d + 6) 62 1 1 (o_al 3 (o_al 9 (o_get 3 15 15 (o_lshrc 65536 (o_l2i (o_callv (d + 6) 62 1 1 (o_al 3 (o_al 9 (o_get 3 14 14 (o_callv (d + 6) 62 1 1 (b118_186 (d + 6) (fW (d + 6) kd118 K) K)))))))))))))))))) : FC) [some (fx 18), some (fx 8), some (gr a), some (fx 74), some (ti hd), some (ti td), some (ldV M0 x ld), some (ti (fe M0 x)), some (ti (fe M0 x + k)), some (gr c)] [ti (M1 74 1)] (sh, M3, nx, zl) := by
      refine putFour_O (d := d + 4) (x := 0) (row74 sh) (by omega) w3 (fun M4 f4 w4 => ?_)
      have c4 : M4 c = M c := by rw [f4 c (by omega) (by omega), c3]
      refine ⟨_, hSc, ?_⟩
      refine ⟨by rw [c4]; omega, ?_⟩
      refine putFour_O (d := d + 4) (row74 sh) (by rw [c4]; omega) w4 (fun M5 f5 w5 => ?_)
      have c5 : M5 c = M c := by rw [f5 c (by omega) (by omega), c4]
      refine ⟨_, hSc, ?_⟩
      refine putFour_O (d := d + 4) (row74 sh) (by rw [c5]; omega) w5 (fun M6 f6 w6 => ?_)
      rw [c4, c5, apO_app, apO_app] at w6
      have o6 : ∀ y : Nat, y ≠ 74 → y ≠ 75 → M6 y = M3 y := fun y y1 y2 => by rw [f6 y y1 y2, f5 y y1 y2, f4 y y1 y2]
      have pl6 : lwF M1 M6 := ⟨fun y hy => by rw [o6 y (by omega) (by omega), o3 y (by omega) (by omega) (by omega)], fun i j1 _ => by rw [o6 18 (by omega) (by omega), n3 i j1]⟩
      have eL : apO 65536 (apO 65536 s (leL 0 4 ++ (leL (M c 15 / 65536) 4 ++ leL (M c 14) 4))) (enL (cgE M0 M x k) (cgE M0 M x k)) = apO 65536 s (lhd 1 (cgE M0 M x k) (enL (cgE M0 M x k) (cgE M0 M x k))) := by
        rw [apO_app, hc]
        unfold lhd
        show _ = apO 65536 s (leL (((1 : Nat) : Int) - 1) 4 ++ (leL (M (ceC M0 x k) 15 / 65536) 4 ++ (leL (M (ceC M0 x k) 14) 4 ++ enL (cgE M0 M x k) (cgE M0 M x k))))
        rw [show ((1 : Nat) : Int) - 1 = 0 by omega]
        simp only [List.append_assoc]
      have F := B186 M6 (M1 74 1) 0 k _ pl6 ⟨by rw [o6 72 (by omega) (by omega), o3 72 (by omega) (by omega) (by omega)], by rw [o6 73 (by omega) (by omega), o3 73 (by omega) (by omega) (by omega)], by rw [o6 88 (by omega) (by omega), o3 88 (by omega) (by omega) (by omega)], by rw [o6 89 (by omega) (by omega), o3 89 (by omega) (by omega) (by omega)]⟩ hk ⟨q1, q2⟩ (by omega) w6 (fun C2 hC2 => ?_) (fun M7 f7 ee mm w7 => ?_)
      · rw [← hc] at F
        exact F
      · rw [eL] at hC2
        cases s with
        | none => cases hC2
        | some C => exact ⟨C, rfl, hcn C C2 rfl hC2⟩
      · obtain ⟨e94, e95, e18⟩ := ee
        rw [eL] at w7
        have e18' : M7 18 = M3 18 := by rw [e18, o6 18 (by omega) (by omega)]
        exact kn hN M7 sX3 _ (lwF_t pl6 f7) (by rw [e18', n3 14 (by decide)]) (rzO_F x3 (by rw [e94, o6 94 (by omega) (by omega)]) (by rw [e95, o6 95 (by omega) (by omega)])) (fun w => ⟨(i1 w).1, by rw [e18']; exact (i1 w).2⟩) (fun w => ⟨(i2 w).1, by rw [e18']; exact (i2 w).2⟩) mm w7
    rw [← hl4] at T
    exact T
  have B109 : plN M0 M M1 x k hd td ld → b118_109 (d + 6) (fW (d + 6) kd118 K) K [some (fx 18), some (fx 8), some (gr a), some (fx 74), some (ti hd), some (ti td), some (ldV M0 x ld), some (ti (fe M0 x)), some (ti (fe M0 x + k)), some (gr c)] [] (sh, M1, nx, zl) := by
    intro hN
    cases ld with
    | none => exact B146 M1 sX (fun _ _ _ _ => rfl) (fun _ _ => rfl) hX hN (fun w => absurd rfl w.1) (fun _ => ⟨rfl, rfl⟩)
    | some j =>
      refine ⟨by omega, ?_⟩
      refine ⟨by omega, ?_⟩
      refine ⟨by omega, fun w => ?_, fun w => ?_⟩
      · exact B146 M1 sX (fun _ _ _ _ => rfl) (fun _ _ => rfl) hX hN (fun w2 => absurd w w2.2) (fun _ => ⟨rfl, rfl⟩)
      · have z1 := fzF_t hz (lwF_fz (sh := sh) hpl)
        have T1 := treeR_fz hT z1
        obtain ⟨-, -, r, rb, e14, hD⟩ := T1.2.2.2.1 (fe M0 x + k) (by omega) (by rw [z1.1 168 (by omega)]; omega)
        have eN : nmL M1 (fe M0 x + k) = nmL M0 (fe M0 x + k) := by
          unfold nmL
          rw [z1.1 185 (by omega), z1.1 186 (by omega), z1.1 187 (by omega)]
        rw [eN] at hD
        refine ⟨by omega, fun m hm => ?_, fun hm => by omega⟩
        have em : m = r := by omega
        rw [em]
        have h73 := hK.2.2 (M1 74 1 / 8192).toNat (by omega)
        rw [show (((M1 74 1 / 8192).toNat : Nat) : Int) = M1 74 1 / 8192 by omega] at h73
        have hk8 := hK.2.1
        refine addIndex_Y (d := d + 3) hD ⟨q1, q2⟩ h14 (by omega) hX (fun M3 f3 n3 m13 w3 => ?_)
        exact B146 M3 _ (fun y y1 y2 y3 => f3 y y2 y3 y1) n3 w3 hN (fun _ => ⟨rfl, m13⟩) (fun w2 => absurd ⟨by simp, w⟩ w2)
  refine s118_48 (d + 6) K _ _ _ ?_
  refine ⟨_, hS, ?_⟩
  refine ⟨by omega, fun w => by omega, fun w => ?_⟩
  have e13 : M1 13 (fe M0 x + k) = (c : Nat) := by
    rw [hpl.1 13 (by omega), hz.1 13 (by omega), (hT.2.2.2.1 (fe M0 x + k) (by omega) (by omega)).2.1]
    exact hc11
  refine ⟨by omega, fun m hm => ?_, fun hm => by omega⟩
  have em : m = c := by omega
  rw [em]
  cases ld with
  | none => exact B109 (Or.inl rfl)
  | some j =>
    have hj := hld j rfl
    refine ⟨by omega, fun w1 => B109 (Or.inr (Or.inl w1)), fun w1 => ?_⟩
    refine ⟨by omega, ?_⟩
    refine ⟨by omega, ?_⟩
    refine ⟨by omega, fun w2 => B109 (Or.inr (Or.inr (Or.inl w2))), fun w2 => ?_⟩
    obtain ⟨u2, v2, hSl, hl3, hl11, hEl⟩ := ce_of (x := x) hT hj
    have bj := hb j hj
    have cM : M1 c = M c := hpl.1 c (by omega)
    have lM : M1 (ceC M0 x j) = M (ceC M0 x j) := hpl.1 _ (by omega)
    refine goesWith_Y (d := d + 5) hSc hSl (by rw [cM]; omega) (by rw [lM]; omega) (by rw [cM]; omega) (by rw [lM]; omega) (fun z hz2 => ?_)
    have EQ : goW (M1 c 15) (M1 (ceC M0 x j) 15) (M1 c 14) (M1 (ceC M0 x j) 14) ↔ lgo (cgE M0 M x k) (cgE M0 M x j) := by
      rw [cM, lM, hc]
      exact Iff.rfl
    rcases hz2 with ⟨z1, z2⟩ | ⟨z1, z2⟩
    · rw [z1]
      have hO : ¬ plN M0 M M1 x k hd td (some j) := by
        intro q
        rcases q with q | q | q | ⟨j2, q, q2⟩
        · cases q
        · exact w1 q
        · exact q w2
        · rw [← Option.some.inj q] at q2
          exact q2 (EQ.1 z2)
      refine ⟨by omega, fun _ => ?_, fun w3 => by omega⟩
      refine B186 M1 hd td j s (lwF_r M1) ⟨rfl, rfl, rfl, rfl⟩ hj hhd (by omega) hQ.1 (fun C2 hC2 => ?_) (fun M4 f4 ee mm w4 => ?_)
      · cases s with
        | none => cases hC2
        | some C => exact ⟨C, rfl, hco j C C2 hO rfl rfl hC2⟩
      · obtain ⟨e94, e95, e18⟩ := ee
        exact ko j hO rfl M4 _ f4 (by rw [e18]) (rzO_F hX e94 e95) (by rw [e18]) mm w4
    · rw [z1]
      refine ⟨by omega, fun w3 => by omega, fun _ => ?_⟩
      exact B109 (Or.inr (Or.inr (Or.inr ⟨j, rfl, fun q => z2 (EQ.2 q)⟩)))
end CLISTING
