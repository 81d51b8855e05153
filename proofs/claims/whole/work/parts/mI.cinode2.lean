/-! FREEZING: an inode; the class: directories, all kinds -/
/-- how many of n entries from e on lead to directories -/
def foN (M : FM) (e : Int) : Nat → Int
  | 0 => 0
  | n + 1 => foN M e n + (if M 171 (M 184 (e + n)) = 1 then 1 else 0)
theorem foN_r (M : FM) (e : Int) : ∀ n : Nat, 0 ≤ foN M e n ∧ foN M e n ≤ n
  | 0 => by
    show (0 : Int) ≤ 0 ∧ (0 : Int) ≤ ((0 : Nat) : Int)
    omega
  | n + 1 => by
    have ih := foN_r M e n
    show 0 ≤ foN M e n + (if M 171 (M 184 (e + n)) = 1 then 1 else 0) ∧ foN M e n + (if M 171 (M 184 (e + n)) = 1 then 1 else 0) ≤ ((n + 1 : Nat) : Int)
    split <;> omega
/-- a directory's inode: number of indexes, listing's size, start, place, parent, links, the indexes -/
def fdB (cm : Int → List Int) (ic sz st pl pa lk : Int) (ix : List Int) : List Int := if 0 < ic ∨ 65535 < sz then cm 8 ++ (leL lk 4 ++ (leL sz 4 ++ (leL st 4 ++ (leL pa 4 ++ (leL ic 2 ++ (leL pl 2 ++ (leL (-1) 4 ++ ix))))))) else cm 1 ++ (leL st 4 ++ (leL lk 4 ++ (leL sz 2 ++ (leL pl 2 ++ leL pa 4))))
/-- what is behind the ties of a link, a device and others -/
def otB (kd dv : Int) (T : List Int) : List Int := if kd = 3 then leL T.length 4 ++ T else if kd = 4 ∨ kd = 5 then leL dv 4 else []
section CINODE2
variable {d nx zl : Nat} {K : Option TV → FH → Prop} {sh : Nat → Option Shp} {M0 M : FM} {op : Int} {B : Nat} {sI : Option (List Int)}
theorem foldersIn_Y {x : Int} {a : Nat} (hT : treeR sh M0) (hz : fzF sh M0 M) (hx : (0 ≤ x ∧ x < M0 168 5) ∧ live M0 x) (ha : M0 11 x = a) (k : K (some (ti (foN M0 (fe M0 x) (ec M0 x)))) (sh, M, nx, zl)) : fm_Y (d + 4) 109 [.ref 8, .ref a] (sh, M, nx, zl) K := by
  obtain ⟨a2, h9, t9, ea, hS, ha3, hE, -⟩ := nd_of hT hx
  have ea2 : a2 = a := by omega
  rw [ea2] at hS ha3 hE
  have n20 := hT.1.2.2.2.1.1
  have nN := hT.1.1.1
  have er := fe_r hT.1 x
  have fx1 : fe M x = fe M0 x := by
    unfold fe
    rw [hz.1 168 (by omega), hz.1 183 (by omega)]
  have e13 : M 13 = M0 13 := hz.1 13 (by omega)
  have e10 : M a 10 = (ec M0 x : Nat) := by
    rw [hz.2.2 a 10 ha3 (by decide)]
    have q1 := hE.2.2.2.2.2.2.2.2
    have q2 := (cnt_nn (M0 183) x (M0 168 20).toNat).1
    unfold ec
    omega
  refine m109 [fx 8, gr a] ?_
  refine first_Y (d := d) (F := x) (treeR_fz hT hz) hS (by rw [hz.2.2 a 0 ha3 (by decide)]; exact hE.1) (by omega) ?_
  rw [fx1]
  have LOOP : ∀ (N j : Nat), ec M0 x - j < N → j ≤ ec M0 x → fm_X (d + 3) kd109 11 [some (fx 8), some (gr a), some (ti (fe M0 x)), some (ti (foN M0 (fe M0 x) j)), some (ti (fe M0 x + j))] [] (sh, M, nx, zl) K := by
    intro N
    induction N with
    | zero =>
      intro j hN
      omega
    | succ N ih =>
      intro j hN hj
      have fr := foN_r M0 (fe M0 x) j
      refine s109_11 (d + 3) K _ _ _ ?_
      refine ⟨_, hS, ?_⟩
      refine ⟨by omega, fun w => ?_, fun w => ?_⟩
      · have e : j = ec M0 x := by omega
        rw [← e] at k
        exact k
      · have cl := ent_live hT.1 (k := fe M0 x + j) (by omega) (by omega)
        have ce := (hT.2.2.2.1 (fe M0 x + j) (by omega) (by omega)).2.1
        obtain ⟨b, h8, t8, eb, hSb, hb3, hEb, -⟩ := nd_of hT ⟨⟨by omega, cl.1.2⟩, cl.2⟩
        have kb : M b 1 = M0 171 (M0 184 (fe M0 x + j)) := by
          rw [hz.2.2 b 1 hb3 (by decide)]
          exact hEb.2.1
        have kr := (hT.1.1.2 (M0 184 (fe M0 x + j)) (by omega) cl.1.2).1
        have es : foN M0 (fe M0 x) (j + 1) = foN M0 (fe M0 x) j + (if M0 171 (M0 184 (fe M0 x + j)) = 1 then 1 else 0) := rfl
        have NX : ∀ v : Int, v = foN M0 (fe M0 x) (j + 1) → b109_39 (d + 3) (fW (d + 3) kd109 K) K [some (fx 8), some (gr a), some (ti (fe M0 x)), some (ti v), some (ti (fe M0 x + j))] [] (sh, M, nx, zl) := by
          intro v hv
          have F := ih (j + 1) (by omega) (by omega)
          rw [← hv, show fe M0 x + ((j + 1 : Nat) : Int) = fe M0 x + j + 1 by omega] at F
          exact F
        refine ⟨by omega, fun m hm => ?_, fun hm => by rw [e13] at hm; omega⟩
        rw [e13] at hm
        have em : m = b := by omega
        rw [em]
        refine ⟨_, hSb, ?_⟩
        refine ⟨by omega, fun w2 => ?_, fun w2 => ?_⟩
        · exact NX _ (by rw [es, if_neg (by omega), Int.add_zero])
        · exact NX _ (by rw [es, if_pos (by omega)])
  have F := LOOP (ec M0 x + 1) 0 (by omega) (by omega)
  rw [show fe M0 x + ((0 : Nat) : Int) = fe M0 x by omega] at F
  exact F
/-- the parent's number -/
def fdH (M : FM) (h9 : Option Nat) : Int := match h9 with
  | none => M 18 2 + 1
  | some hh => M hh 14
theorem putFolder_Y {a : Nat} {h9 t9 : Option Nat} {ids : List Int} {lk pa : Int} (hS : shp sh a = some (.inr (3, nodeFl h9 t9))) (ha : a = 17 ∨ 265 ≤ a) (hO : ndO M a ids) (hid : idV M ids) (hh : ∀ h : Nat, h9 = some h → ∃ u v, shp sh h = some (.inr (3, nodeFl u v))) (hpa : fdH M h9 = pa) (hpr : 0 ≤ pa ∧ pa ≤ 3000) (hlk : 0 ≤ lk ∧ lk ≤ 3000) (h14 : 0 ≤ M 18 14 ∧ M 18 14 ≤ 65536) (h74 : 0 ≤ M 74 1 ∧ M 74 1 ≤ 65536) (h73 : 0 ≤ M 73 (M 18 14 / 8192) ∧ M 73 (M 18 14 / 8192) ≤ 131072) (h13 : 0 ≤ M 18 13 ∧ M 18 13 ≤ 65535) (h94 : 0 ≤ M 94 1 ∧ M 94 1 ≤ 8192) (hI : rzO M 70 71 65536 sI)
    (k : ∀ M2 : FM, (∀ y : Nat, y ≠ 70 → y ≠ 71 → M2 y = M y) → rzO M2 70 71 65536 (apO 65536 sI (fdB (cmA M a ids) (M 18 13) (M 74 1 - M 18 14 + 3) (M 73 (M 18 14 / 8192)) (M 18 14 % 8192) pa lk (sl (M 95) 0 (M 94 1).toNat))) → K none (sh, M2, nx, zl)) : fm_Y (d + 4) 110 [.ref 18, .ref a, .int (Int32.ofInt lk)] (sh, M, nx, zl) K := by
  obtain ⟨sz, hsz⟩ : ∃ sz, sz = M 74 1 - M 18 14 + 3 := ⟨_, rfl⟩
  obtain ⟨st, hst⟩ : ∃ st, st = M 73 (M 18 14 / 8192) := ⟨_, rfl⟩
  obtain ⟨pl, hpl⟩ : ∃ pl, pl = M 18 14 % 8192 := ⟨_, rfl⟩
  obtain ⟨ic, hic⟩ : ∃ ic, ic = M 18 13 := ⟨_, rfl⟩
  refine m110 [fx 18, gr a, ti lk] ?_
  refine pstartAt_Y (ps72 sh) (by omega) ?_
  refine ⟨by omega, ?_⟩
  -- behind the parent
  have B110 : ∀ e : Int, (e = 1 ∧ (0 < ic ∨ 65535 < sz) ∨ e = 0 ∧ ¬ (0 < ic ∨ 65535 < sz)) → b110_95 (d + 3) (fW (d + 3) kd110 K) K [some (fx 18), some (gr a), some (ti lk), some (fx 70), some (ti sz), some (ti st), some (ti pl), some (ti pa), none] [ti e] (sh, M, nx, zl) := by
    intro e he
    rw [← hsz, ← hst, ← hpl, ← hic] at k
    rcases he with ⟨e1, e2⟩ | ⟨e1, e2⟩
    · refine ⟨by omega, fun w => by omega, fun w => ?_⟩
      refine putCommon_Y (ty := 8) hS ha (by omega) hO hid hI (fun M1 f1 w1 => ?_)
      refine ⟨by omega, fun w => by omega, fun w => ?_⟩
      refine putFour_O (row70 sh) (by omega) w1 (fun M2 f2 w2 => ?_)
      refine putFour_O (row70 sh) (by omega) w2 (fun M3 f3 w3 => ?_)
      refine putFour_O (row70 sh) (by omega) w3 (fun M4 f4 w4 => ?_)
      refine putFour_O (row70 sh) (by omega) w4 (fun M5 f5 w5 => ?_)
      have q13 : M5 18 13 = ic := by rw [f5 18 (by omega) (by omega), f4 18 (by omega) (by omega), f3 18 (by omega) (by omega), f2 18 (by omega) (by omega), f1 18 (by omega) (by omega), hic]
      refine putTwo_O (row70 sh) (by omega) w5 (fun M6 f6 w6 => ?_)
      refine putTwo_O (row70 sh) (by omega) w6 (fun M7 f7 w7 => ?_)
      refine putFour_O (row70 sh) (by omega) w7 (fun M8 f8 w8 => ?_)
      have o8 : ∀ y : Nat, y ≠ 70 → y ≠ 71 → M8 y = M y := fun y y1 y2 => by rw [f8 y y1 y2, f7 y y1 y2, f6 y y1 y2, f5 y y1 y2, f4 y y1 y2, f3 y y1 y2, f2 y y1 y2, f1 y y1 y2]
      have q94 : M8 94 1 = M 94 1 := by rw [o8 94 (by omega) (by omega)]
      refine putAll_O (c := 95) (nc := 8192) (row70 sh) rfl (by omega) (by omega) (by omega) (by omega) (by omega) (by omega) w8 (fun M9 f9 w9 => ?_)
      refine k M9 (fun y y1 y2 => by rw [f9 y y1 y2, o8 y y1 y2]) ?_
      rw [q94, o8 95 (by omega) (by omega), q13] at w9
      simp only [apO_app] at w9
      unfold fdB
      rw [if_pos e2]
      simp only [List.append_assoc] at w9 ⊢
      exact w9
    · refine ⟨by omega, fun w => ?_, fun w => by omega⟩
      refine putCommon_Y (ty := 1) hS ha (by omega) hO hid hI (fun M1 f1 w1 => ?_)
      refine ⟨by omega, fun w => ?_, fun w => by omega⟩
      refine putFour_O (row70 sh) (by omega) w1 (fun M2 f2 w2 => ?_)
      refine putFour_O (row70 sh) (by omega) w2 (fun M3 f3 w3 => ?_)
      refine putTwo_O (row70 sh) (by omega) w3 (fun M4 f4 w4 => ?_)
      refine putTwo_O (row70 sh) (by omega) w4 (fun M5 f5 w5 => ?_)
      refine putFour_O (row70 sh) (by omega) w5 (fun M6 f6 w6 => ?_)
      refine k M6 (fun y y1 y2 => by rw [f6 y y1 y2, f5 y y1 y2, f4 y y1 y2, f3 y y1 y2, f2 y y1 y2, f1 y y1 y2]) ?_
      simp only [apO_app] at w6
      unfold fdB
      rw [if_neg e2]
      simp only [List.append_assoc] at w6 ⊢
      exact w6
  have B73 : ∀ p2 : Int, p2 = pa → b110_73 (d + 3) (fW (d + 3) kd110 K) K [some (fx 18), some (gr a), some (ti lk), some (fx 70), some (ti sz), some (ti st), some (ti pl), none, none] [ti p2] (sh, M, nx, zl) := by
    intro p2 hp2
    rw [hp2]
    refine ⟨by omega, fun w => B110 1 (Or.inl ⟨rfl, Or.inl (by omega)⟩), fun w => ?_⟩
    refine ⟨by omega, fun w2 => B110 0 (Or.inr ⟨rfl, by omega⟩), fun w2 => B110 1 (Or.inl ⟨rfl, Or.inr (by omega)⟩)⟩
  have T : b110_50 (d + 3) (fW (d + 3) kd110 K) K [some (fx 18), some (gr a), some (ti lk), some (fx 70), some (ti sz), some (ti st), some (ti pl), none, none] [] (sh, M, nx, zl) := by
    cases h9 with
    | none =>
      refine ⟨_, hS, ?_⟩
      exact B73 (M 18 2 + 1) hpa
    | some h =>
      obtain ⟨u, v, hu⟩ := hh h rfl
      refine ⟨_, hS, ?_⟩
      refine ⟨_, hS, ?_⟩
      refine ⟨_, hu, ?_⟩
      exact B73 (M h 14) hpa
  rw [hsz, hst, hpl] at T
  exact T
/-- where an inode lies, and what changes with it -/
def inF (M M2 : FM) (a : Nat) : Prop := (∀ y : Nat, y ≠ 70 → y ≠ 71 → y ≠ a → M2 y = M y) ∧ (∀ i : Int, i ≠ 15 → M2 a i = M a i) ∧ M2 a 15 = M 69 (M 70 1 / 8192) * 65536 + M 70 1 % 8192
theorem putInode_b {a : Nat} {h9 t9 : Option Nat} (hS : shp sh a = some (.inr (3, nodeFl h9 t9))) (ha : a = 17 ∨ 265 ≤ a) (h70 : 0 ≤ M 70 1 ∧ M 70 1 ≤ 65536) (h69 : 0 ≤ M 69 (M 70 1 / 8192) ∧ M 69 (M 70 1 / 8192) ≤ 131072)
    (k : ∀ Q : FM, (∀ y : Nat, y ≠ a → Q y = M y) → (∀ i : Int, i ≠ 15 → Q a i = M a i) → Q a 15 = M 69 (M 70 1 / 8192) * 65536 + M 70 1 % 8192 → (o_al 2 (o_get 3 1 1 (o_ic 1 (o_icmp .ne (o_al 2 (o_get 3 1 1 (o_ic 2 (o_icmp .ne (o_al 0 (o_al 2 (o_al 2 (o_get 3 1 1 (o_callv (d + 5) 112 2 4 (o_al 0 (o_get 4 4 4 (o_get 7 0 0 (b107_76 (d + 5) (fW (d + 5) kd107 K) K))))))))) (o_al 0 (o_al 2 (o_callv (d + 5) 114 1 4 (b107_166 (d + 5) (fW (d + 5) kd107 K) K)))))))) (o_al 0 (o_al 2 (o_al 1 (o_al 2 (o_callv (d + 5) 109 1 2 (o_ic 2 (o_iadd (o_callv (d + 5) 110 2 4 (b107_166 (d + 5) (fW (d + 5) kd107 K) K)))))))))))) : FC) [some (fx 18), some (fx 8), some (gr a)] [] (sh, Q, nx, zl)) : fm_Y (d + 6) 107 [.ref 18, .ref 8, .ref a] (sh, M, nx, zl) K := by
  refine m107 [fx 18, fx 8, gr a] ?_
  refine preference_Y (ps68 sh) (by omega) (by omega) ?_
  refine ⟨_, ⟨by omega, hS, rfl⟩, ?_⟩
  obtain ⟨Q, gQ⟩ : ∃ Q : FM, Q = pq M a 15 (M 69 (M 70 1 / 8192) * 65536 + M 70 1 % 8192) := ⟨_, rfl⟩
  have F := k Q (fun y hy => by rw [gQ, pq_o _ _ _ hy]) (fun i hi => by rw [gQ, pq_ne _ _ _ _ hi]) (by rw [gQ, pq_at])
  rw [gQ] at F
  exact F
theorem putInode_o {a : Nat} {h9 t9 : Option Nat} {ids T : List Int} (hS : shp sh a = some (.inr (3, nodeFl h9 t9))) (ha : a = 17 ∨ 265 ≤ a) (hO : ndO M a ids) (hid : idV M ids) (h1 : 3 ≤ M a 1 ∧ M a 1 ≤ 7) (h9r : 0 ≤ M a 9 ∧ M a 9 ≤ 100000) (h2r : -2147483648 ≤ M a 2 ∧ M a 2 ≤ 2147483647) (hT : M a 1 = 3 → ∃ r b : Nat, t9 = some r ∧ rowD sh M r b T) (h70 : 0 ≤ M 70 1 ∧ M 70 1 ≤ 65536) (h69 : 0 ≤ M 69 (M 70 1 / 8192) ∧ M 69 (M 70 1 / 8192) ≤ 131072) (hI : rzO M 70 71 65536 sI)
    (k : ∀ M2 : FM, inF M M2 a → rzO M2 70 71 65536 (apO 65536 sI (cmA M a ids (M a 1) ++ (leL (M a 9) 4 ++ otB (M a 1) (M a 2) T))) → K none (sh, M2, nx, zl)) : fm_Y (d + 6) 107 [.ref 18, .ref 8, .ref a] (sh, M, nx, zl) K := by
  refine putInode_b hS ha h70 h69 (fun Q qo qn q15 => ?_)
  have q1 : Q a 1 = M a 1 := qn 1 (by decide)
  refine ⟨_, hS, ?_⟩
  refine ⟨by omega, fun _ => ?_, fun w => by omega⟩
  refine ⟨_, hS, ?_⟩
  refine ⟨by omega, fun _ => ?_, fun w => by omega⟩
  refine ⟨_, hS, ?_⟩
  have OQ : ndO Q a ids := by
    unfold ndO at *
    rw [qn 5 (by decide), qn 6 (by decide), qn 7 (by decide), qn 8 (by decide), qn 14 (by decide)]
    exact hO
  have cq : cmA Q a ids (M a 1) = cmA M a ids (M a 1) := by
    unfold cmA
    rw [qn 5 (by decide), qn 6 (by decide), qn 7 (by decide), qn 8 (by decide), qn 14 (by decide)]
  rw [q1]
  refine putCommon_Y (d := d + 2) hS ha (by omega) OQ (idV_F hid (qo 86 (by omega)) (qo 87 (by omega))) (rzO_F hI (qo 70 (by omega)) (qo 71 (by omega))) (fun M1 f1 w1 => ?_)
  rw [cq] at w1
  have a1 : ∀ i : Int, i ≠ 15 → M1 a i = M a i := fun i hi => by rw [f1 a (by omega) (by omega), qn i hi]
  refine ⟨_, hS, ?_⟩
  refine putFour_O (row70 sh) (by rw [a1 9 (by decide)]; omega) w1 (fun M2 f2 w2 => ?_)
  rw [a1 9 (by decide), apO_app] at w2
  have a2 : ∀ i : Int, i ≠ 15 → M2 a i = M a i := fun i hi => by rw [f2 a (by omega) (by omega), a1 i hi]
  have o2 : ∀ y : Nat, y ≠ 70 → y ≠ 71 → y ≠ a → M2 y = M y := fun y y1 y2 y3 => by rw [f2 y y1 y2, f1 y y1 y2, qo y y3]
  have e15 : M2 a 15 = M 69 (M 70 1 / 8192) * 65536 + M 70 1 % 8192 := by rw [f2 a (by omega) (by omega), f1 a (by omega) (by omega), q15]
  have k1 : M2 a 1 = M a 1 := a2 1 (by decide)
  refine ⟨_, hS, ?_⟩
  refine ⟨by omega, fun w => ?_, fun w => ?_⟩
  · have DEV : M a 1 = 4 ∨ M a 1 = 5 → b107_152 (d + 5) (fW (d + 5) kd107 K) K [some (fx 18), some (fx 8), some (gr a)] [] (sh, M2, nx, zl) := by
      intro hd
      refine ⟨_, hS, ?_⟩
      refine putFour_O (row70 sh) (by rw [a2 2 (by decide)]; omega) w2 (fun M3 f3 w3 => ?_)
      refine k M3 ⟨fun y y1 y2 y3 => by rw [f3 y y1 y2, o2 y y1 y2 y3], fun i hi => by rw [f3 a (by omega) (by omega), a2 i hi], by rw [f3 a (by omega) (by omega), e15]⟩ ?_
      rw [a2 2 (by decide), apO_app, List.append_assoc] at w3
      unfold otB
      rw [if_neg (by omega), if_pos hd]
      exact w3
    refine ⟨_, hS, ?_⟩
    refine ⟨by omega, fun w3 => DEV (Or.inl (by omega)), fun w3 => ?_⟩
    refine ⟨_, hS, ?_⟩
    refine ⟨by omega, fun w4 => ?_, fun w4 => DEV (Or.inr (by omega))⟩
    refine k M2 ⟨o2, a2, e15⟩ ?_
    unfold otB
    rw [if_neg (by omega), if_neg (by omega), List.append_nil]
    exact w2
  · obtain ⟨r, b, ht, hD⟩ := hT (by omega)
    obtain ⟨⟨s1, s2⟩, ⟨r1, r2, r3⟩, r4, r5, r6⟩ := hD
    subst ht
    have ra : r ≠ a := fun q => by
      rw [q, hS] at s1
      simp at s1
    have ba : b ≠ a := fun q => by
      rw [q, hS] at s2
      simp at s2
    have m1 : M2 r 1 = T.length := by
      rw [o2 r (by omega) (by omega) ra]
      exact r5
    refine ⟨_, hS, ?_⟩
    refine ⟨_, s1, ?_⟩
    refine putFour_O (row70 sh) (by omega) w2 (fun M3 f3 w3 => ?_)
    have m3 : M3 r 1 = T.length := by rw [f3 r (by omega) (by omega), m1]
    refine ⟨_, hS, ?_⟩
    refine ⟨_, s1, ?_⟩
    refine ⟨_, hS, ?_⟩
    refine ⟨_, s1, ?_⟩
    refine putAll_O (c := b) (nc := T.length) (row70 sh) s2 (by omega) (by omega) (by omega) (by omega) (by omega) (by omega) w3 (fun M4 f4 w4 => ?_)
    refine k M4 ⟨fun y y1 y2 y3 => by rw [f4 y y1 y2, f3 y y1 y2, o2 y y1 y2 y3], fun i hi => by rw [f4 a (by omega) (by omega), f3 a (by omega) (by omega), a2 i hi], by rw [f4 a (by omega) (by omega), f3 a (by omega) (by omega), e15]⟩ ?_
    rw [m1, m3, Int.toNat_natCast, f3 b (by omega) (by omega), o2 b (by omega) (by omega) ba, r6, apO_app, apO_app, List.append_assoc] at w4
    unfold otB
    rw [if_pos (by omega)]
    exact w4
end CINODE2
