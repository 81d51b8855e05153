/-! FREEZING: an inode; the class: a file's and a directory's; an entry, an index -/
section CINODE3
variable {d nx zl : Nat} {K : Option TV → FH → Prop} {sh : Nat → Option Shp} {M0 M : FM} {op : Int} {B : Nat} {sI : Option (List Int)}
theorem row74 (sh : Nat → Option Shp) : rowS sh 74 75 65536 := ⟨⟨rfl, rfl⟩, by decide, by decide, by decide, by decide⟩
theorem row94 (sh : Nat → Option Shp) : rowS sh 94 95 8192 := ⟨⟨rfl, rfl⟩, by decide, by decide, by decide, by decide⟩
theorem putInode_r {a : Nat} {h9 t9 : Option Nat} {ids bl : List Int} {n : Int} {fb : Nat} (hS : shp sh a = some (.inr (3, nodeFl h9 t9))) (ha : a = 17 ∨ 265 ≤ a) (hO : ndO M a ids) (hid : idV M ids) (h1 : M a 1 = 2) (hB : bB5 B) (hop : 0 ≤ op ∧ op ≤ 15) (h16 : M 18 16 = B) (h17 : M 18 17 = op) (h12 : M a 12 = n) (hn : 0 ≤ n ∧ n ≤ 65536) (h9r : 0 ≤ M a 9 ∧ M a 9 ≤ 100000) (h17a : M a 17 = 4 * fb) (hr : (-1 ≤ M a 16 ∧ M a 16 ≤ 200000) ∧ (-1 ≤ M a 18 ∧ M a 18 ≤ 200000) ∧ (-1 ≤ M a 19 ∧ M a 19 ≤ 200000)) (hb : rzO M 92 93 8064 (some (idB bl))) (hbr : ∀ b ∈ bl, 0 ≤ b ∧ b ≤ 16842752) (hfb : fb + bkN op B n ≤ bl.length) (hze : 0 ≤ zeB bl fb B n (bkN op B n).toNat ∧ zeB bl fb B n (bkN op B n).toNat ≤ 65536) (h70 : 0 ≤ M 70 1 ∧ M 70 1 ≤ 65536) (h69 : 0 ≤ M 69 (M 70 1 / 8192) ∧ M 69 (M 70 1 / 8192) ≤ 131072) (hI : rzO M 70 71 65536 sI)
    (k : ∀ M2 : FM, inF M M2 a → rzO M2 70 71 65536 (apO 65536 sI (flB (cmA M a ids) (M a 9) (zeB bl fb B n (bkN op B n).toNat) (M a 16) n (M a 18) (M a 19) (idB ((bl.drop fb).take (bkN op B n).toNat)))) → K none (sh, M2, nx, zl)) : fm_Y (d + 6) 107 [.ref 18, .ref 8, .ref a] (sh, M, nx, zl) K := by
  refine putInode_b hS ha h70 h69 (fun Q qo qn q15 => ?_)
  have q1 : Q a 1 = 2 := by rw [qn 1 (by decide)]; exact h1
  refine ⟨_, hS, ?_⟩
  refine ⟨by omega, fun _ => ?_, fun w => by omega⟩
  refine ⟨_, hS, ?_⟩
  refine ⟨by omega, fun w => by omega, fun _ => ?_⟩
  have OQ : ndO Q a ids := by
    unfold ndO at *
    rw [qn 5 (by decide), qn 6 (by decide), qn 7 (by decide), qn 8 (by decide), qn 14 (by decide)]
    exact hO
  have cq : cmA Q a ids = cmA M a ids := by
    funext ty
    unfold cmA
    rw [qn 5 (by decide), qn 6 (by decide), qn 7 (by decide), qn 8 (by decide), qn 14 (by decide)]
  refine cputFile_Y (d := d + 1) (n := n) (fb := fb) (bl := bl) (ids := ids) (B := B) (op := op) hS ha OQ (idV_F hid (qo 86 (by omega)) (qo 87 (by omega))) hB hop (by rw [qo 18 (by omega)]; exact h16) (by rw [qo 18 (by omega)]; exact h17) (by rw [qn 12 (by decide)]; exact h12) hn (by rw [qn 9 (by decide)]; exact h9r) (by rw [qn 17 (by decide)]; exact h17a) (by rw [qn 16 (by decide), qn 18 (by decide), qn 19 (by decide)]; exact hr) (rzO_F hb (qo 92 (by omega)) (qo 93 (by omega))) hbr hfb hze (rzO_F hI (qo 70 (by omega)) (qo 71 (by omega))) (fun M2 f2 w2 => ?_)
  refine k M2 ⟨fun y y1 y2 y3 => by rw [f2 y y1 y2, qo y y3], fun i hi => by rw [f2 a (by omega) (by omega), qn i hi], by rw [f2 a (by omega) (by omega), q15]⟩ ?_
  rw [cq, qn 9 (by decide), qn 16 (by decide), qn 18 (by decide), qn 19 (by decide)] at w2
  exact w2
theorem putInode_f {a : Nat} {x : Int} {h9 t9 : Option Nat} {ids : List Int} {pa : Int} (hT : treeR sh M0) (hz : fzF sh M0 M) (hx : (0 ≤ x ∧ x < M0 168 5) ∧ live M0 x) (ha' : M0 11 x = a) (hS : shp sh a = some (.inr (3, nodeFl h9 t9))) (ha : a = 17 ∨ 265 ≤ a) (hO : ndO M a ids) (hid : idV M ids) (h1 : M a 1 = 1) (hh : ∀ h : Nat, h9 = some h → ∃ u v, shp sh h = some (.inr (3, nodeFl u v))) (hpa : fdH M h9 = pa) (hpr : 0 ≤ pa ∧ pa ≤ 3000) (h14 : 0 ≤ M 18 14 ∧ M 18 14 ≤ 65536) (h74 : 0 ≤ M 74 1 ∧ M 74 1 ≤ 65536) (h73 : 0 ≤ M 73 (M 18 14 / 8192) ∧ M 73 (M 18 14 / 8192) ≤ 131072) (h13 : 0 ≤ M 18 13 ∧ M 18 13 ≤ 65535) (h94 : 0 ≤ M 94 1 ∧ M 94 1 ≤ 8192) (h70 : 0 ≤ M 70 1 ∧ M 70 1 ≤ 65536) (h69 : 0 ≤ M 69 (M 70 1 / 8192) ∧ M 69 (M 70 1 / 8192) ≤ 131072) (hI : rzO M 70 71 65536 sI)
    (k : ∀ M2 : FM, inF M M2 a → rzO M2 70 71 65536 (apO 65536 sI (fdB (cmA M a ids) (M 18 13) (M 74 1 - M 18 14 + 3) (M 73 (M 18 14 / 8192)) (M 18 14 % 8192) pa (foN M0 (fe M0 x) (ec M0 x) + 2) (sl (M 95) 0 (M 94 1).toNat))) → K none (sh, M2, nx, zl)) : fm_Y (d + 6) 107 [.ref 18, .ref 8, .ref a] (sh, M, nx, zl) K := by
  have fr := foN_r M0 (fe M0 x) (ec M0 x)
  have er := fe_r hT.1 x
  have n20 := hT.1.2.2.2.1.1
  refine putInode_b hS ha h70 h69 (fun Q qo qn q15 => ?_)
  have q1 : Q a 1 = 1 := by rw [qn 1 (by decide)]; exact h1
  refine ⟨_, hS, ?_⟩
  refine ⟨by omega, fun w => by omega, fun _ => ?_⟩
  have OQ : ndO Q a ids := by
    unfold ndO at *
    rw [qn 5 (by decide), qn 6 (by decide), qn 7 (by decide), qn 8 (by decide), qn 14 (by decide)]
    exact hO
  have cq : cmA Q a ids = cmA M a ids := by
    funext ty
    unfold cmA
    rw [qn 5 (by decide), qn 6 (by decide), qn 7 (by decide), qn 8 (by decide), qn 14 (by decide)]
  have zQ : fzF sh M0 Q := by
    refine fzF_t hz ⟨fun c hc => qo c (by omega), fun c hc hf => qo c (fun e => ?_), fun c i hc hi => ?_⟩
    · rw [e] at hf
      exact hf _ hS
    · by_cases e : c = a
      · rw [e, qn i (by omega)]
      · rw [qo c e]
  have e18 : Q 18 = M 18 := qo 18 (by omega)
  have e73 : Q 73 = M 73 := qo 73 (by omega)
  have e74 : Q 74 = M 74 := qo 74 (by omega)
  have e94 : Q 94 = M 94 := qo 94 (by omega)
  have e95 : Q 95 = M 95 := qo 95 (by omega)
  have hp2 : fdH Q h9 = pa := by
    rw [← hpa]
    cases h9 with
    | none =>
      show Q 18 2 + 1 = M 18 2 + 1
      rw [e18]
    | some h =>
      show Q h 14 = M h 14
      by_cases e : h = a
      · rw [e, qn 14 (by decide)]
      · rw [qo h e]
  refine foldersIn_Y (d := d + 1) (x := x) hT zQ hx ha' ?_
  refine putFolder_Y (d := d + 1) (lk := foN M0 (fe M0 x) (ec M0 x) + 2) (pa := pa) hS ha OQ (idV_F hid (qo 86 (by omega)) (qo 87 (by omega))) hh hp2 hpr (by omega) (by rw [e18]; exact h14) (by rw [e74]; exact h74) (by rw [e18, e73]; exact h73) (by rw [e18]; exact h13) (by rw [e94]; exact h94) (rzO_F hI (qo 70 (by omega)) (qo 71 (by omega))) (fun M2 f2 w2 => ?_)
  refine k M2 ⟨fun y y1 y2 y3 => by rw [f2 y y1 y2, qo y y3], fun i hi => by rw [f2 a (by omega) (by omega), qn i hi], by rw [f2 a (by omega) (by omega), q15]⟩ ?_
  rw [cq, e18, e73, e74, e94, e95] at w2
  exact w2
/-- whether an entry goes with the first of its group -/
def goW (r1 r2 n1 n2 : Int) : Prop := r1 / 65536 = r2 / 65536 ∧ -32768 ≤ n1 - n2 ∧ n1 - n2 ≤ 32767
theorem goesWith_Y {b l : Nat} {u v u2 v2 : Option Nat} (hb : shp sh b = some (.inr (3, nodeFl u v))) (hl : shp sh l = some (.inr (3, nodeFl u2 v2))) (n1 : 0 ≤ M b 14 ∧ M b 14 ≤ 2000) (n2 : 0 ≤ M l 14 ∧ M l 14 ≤ 2000) (r1 : -1 ≤ M b 15 ∧ M b 15 ≤ 8589942784) (r2 : -1 ≤ M l 15 ∧ M l 15 ≤ 8589942784) (k : ∀ z : Int, (z = 1 ∧ goW (M b 15) (M l 15) (M b 14) (M l 14) ∨ z = 0 ∧ ¬ goW (M b 15) (M l 15) (M b 14) (M l 14)) → K (some (ti z)) (sh, M, nx, zl)) : fm_Y (d + 1) 119 [.ref b, .ref l] (sh, M, nx, zl) K := by
  refine m119 [gr b, gr l] ?_
  refine ⟨_, hb, ?_⟩
  refine ⟨_, hl, ?_⟩
  refine ⟨_, hb, ?_⟩
  refine ⟨by omega, ?_⟩
  refine ⟨_, hl, ?_⟩
  refine ⟨by omega, ?_⟩
  have NO : ¬ goW (M b 15) (M l 15) (M b 14) (M l 14) → b119_46 d (fW d kd119 K) K [some (gr b), some (gr l), some (ti (M b 14 - M l 14))] [] (sh, M, nx, zl) := fun h => ⟨Or.inl rfl, k 0 (Or.inr ⟨rfl, h⟩)⟩
  refine ⟨by omega, fun w => NO (fun q => w q.1), fun w => ?_⟩
  refine ⟨by omega, fun w2 => NO (fun q => by have := q.2.1; omega), fun w2 => ?_⟩
  refine ⟨by omega, fun w3 => NO (fun q => by have := q.2.2; omega), fun w3 => ?_⟩
  exact ⟨Or.inr rfl, k 1 (Or.inl ⟨rfl, w, by omega, by omega⟩)⟩
/-- an entry's bytes -/
def enB (rf df kd : Int) (nm : List Int) : List Int := leL (rf % 65536) 2 ++ (leL df 2 ++ (leL kd 2 ++ (leL ((nm.length : Int) - 1) 2 ++ nm)))
theorem putEntry_Y {b l r rb : Nat} {u v u2 v2 : Option Nat} {nm : List Int} {sQ : Option (List Int)} (hb : shp sh b = some (.inr (3, nodeFl u v))) (hb3 : b = 17 ∨ 265 ≤ b) (hl : shp sh l = some (.inr (3, nodeFl u2 v2))) (hl3 : l = 17 ∨ 265 ≤ l) (hn : rowD sh M r rb nm) (n1 : 0 ≤ M b 14 ∧ M b 14 ≤ 2000) (n2 : 0 ≤ M l 14 ∧ M l 14 ≤ 2000) (k1 : 1 ≤ M b 1 ∧ M b 1 ≤ 7) (hQ : rzO M 74 75 65536 sQ) (k : ∀ M2 : FM, (∀ y : Nat, y ≠ 74 → y ≠ 75 → M2 y = M y) → rzO M2 74 75 65536 (apO 65536 sQ (enB (M b 15) (M b 14 - M l 14) (M b 1) nm)) → K none (sh, M2, nx, zl)) : fm_Y (d + 3) 121 [.ref 18, .ref b, .ref l, .ref r] (sh, M, nx, zl) K := by
  obtain ⟨⟨s1, s2⟩, ⟨r1, r2, r3⟩, r4, r5, r6⟩ := hn
  refine m121 [fx 18, gr b, gr l, gr r] ?_
  refine ⟨_, hb, ?_⟩
  refine putTwo_O (row74 sh) (by omega) hQ (fun M1 f1 w1 => ?_)
  have b1 : M1 b = M b := f1 b (by omega) (by omega)
  have l1 : M1 l = M l := f1 l (by omega) (by omega)
  refine ⟨_, hb, ?_⟩
  refine ⟨_, hl, ?_⟩
  refine putTwo_O (row74 sh) (by rw [b1, l1]; omega) w1 (fun M2 f2 w2 => ?_)
  have b2 : M2 b = M b := by rw [f2 b (by omega) (by omega), b1]
  refine ⟨_, hb, ?_⟩
  refine putTwo_O (row74 sh) (by rw [b2]; omega) w2 (fun M3 f3 w3 => ?_)
  have q3 : M3 r 1 = nm.length := by rw [f3 r (by omega) (by omega), f2 r (by omega) (by omega), f1 r (by omega) (by omega)]; exact r5
  refine ⟨_, s1, ?_⟩
  refine putTwo_O (row74 sh) (by omega) w3 (fun M4 f4 w4 => ?_)
  have q4 : M4 r 1 = nm.length := by rw [f4 r (by omega) (by omega), q3]
  refine ⟨_, s1, ?_⟩
  refine ⟨_, s1, ?_⟩
  refine putAll_O (c := rb) (nc := nm.length) (row74 sh) s2 (by omega) (by omega) (by omega) (by omega) (by omega) (by omega) w4 (fun M5 f5 w5 => ?_)
  refine k M5 (fun y y1 y2 => by rw [f5 y y1 y2, f4 y y1 y2, f3 y y1 y2, f2 y y1 y2, f1 y y1 y2]) ?_
  rw [q3, q4, Int.toNat_natCast, f4 rb (by omega) (by omega), f3 rb (by omega) (by omega), f2 rb (by omega) (by omega), f1 rb (by omega) (by omega), r6, b1, l1, b2] at w5
  simp only [apO_app] at w5
  unfold enB
  exact w5
/-- an index's bytes -/
def ixB (pl st : Int) (nm : List Int) : List Int := leL pl 4 ++ (leL st 4 ++ (leL ((nm.length : Int) - 1) 4 ++ nm))
theorem addIndex_Y {hd : Int} {r rb : Nat} {nm : List Int} {sX : Option (List Int)} (hn : rowD sh M r rb nm) (h0 : 0 ≤ hd ∧ hd ≤ 65536) (h14 : 0 ≤ M 18 14 ∧ M 18 14 ≤ 65536) (h73 : 0 ≤ M 73 (hd / 8192) ∧ M 73 (hd / 8192) ≤ 131072) (hX : rzO M 94 95 8192 sX) (k : ∀ M2 : FM, (∀ y : Nat, y ≠ 94 → y ≠ 95 → y ≠ 18 → M2 y = M y) → (∀ i : Int, i ≠ 13 → M2 18 i = M 18 i) → M2 18 13 = M 18 13 + 1 → rzO M2 94 95 8192 (apO 8192 sX (ixB (hd - M 18 14) (M 73 (hd / 8192)) nm)) → K none (sh, M2, nx, zl)) : fm_Y (d + 3) 120 [.ref 18, .int (Int32.ofInt hd), .ref r] (sh, M, nx, zl) K := by
  obtain ⟨⟨s1, s2⟩, ⟨r1, r2, r3⟩, r4, r5, r6⟩ := hn
  refine m120 [fx 18, ti hd, gr r] ?_
  refine putFour_O (row94 sh) (by omega) hX (fun M1 f1 w1 => ?_)
  refine pstartAt_Y (ps72 sh) h0 ?_
  have e73 : M1 73 = M 73 := f1 73 (by omega) (by omega)
  refine putFour_O (row94 sh) (by rw [e73]; omega) w1 (fun M2 f2 w2 => ?_)
  have q2 : M2 r 1 = nm.length := by rw [f2 r (by omega) (by omega), f1 r (by omega) (by omega)]; exact r5
  refine ⟨_, s1, ?_⟩
  refine putFour_O (row94 sh) (by omega) w2 (fun M3 f3 w3 => ?_)
  have q3 : M3 r 1 = nm.length := by rw [f3 r (by omega) (by omega), q2]
  refine ⟨_, s1, ?_⟩
  refine ⟨_, s1, ?_⟩
  refine putAll_O (c := rb) (nc := nm.length) (row94 sh) s2 (by omega) (by omega) (by omega) (by omega) (by omega) (by omega) w3 (fun M4 f4 w4 => ?_)
  have o4 : ∀ y : Nat, y ≠ 94 → y ≠ 95 → M4 y = M y := fun y y1 y2 => by rw [f4 y y1 y2, f3 y y1 y2, f2 y y1 y2, f1 y y1 y2]
  obtain ⟨Q, gQ⟩ : ∃ Q : FM, Q = pq M4 18 13 (M4 18 13 + 1) := ⟨_, rfl⟩
  have qo : ∀ c : Nat, c ≠ 18 → Q c = M4 c := fun c hc => by rw [gQ, pq_o _ _ _ hc]
  have F := k Q (fun y y1 y2 y3 => by rw [qo y y3, o4 y y1 y2]) (fun i hi => by rw [gQ, pq_ne _ _ _ _ hi, o4 18 (by omega) (by omega)]) (by rw [gQ, pq_at, o4 18 (by omega) (by omega)]) (by
    rw [e73, q2, q3, Int.toNat_natCast, f3 rb (by omega) (by omega), f2 rb (by omega) (by omega), f1 rb (by omega) (by omega), r6] at w4
    simp only [apO_app] at w4
    unfold ixB
    exact rzO_F w4 (qo 94 (by omega)) (qo 95 (by omega)))
  rw [gQ] at F
  exact F
end CINODE3
