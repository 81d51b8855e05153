/-! CONTRACTS: new rows and nodes; putAll, indexOf -/
theorem fm_Y.impE {d j : Nat} {as : List Value} {h : FH} {K K2 : Option TV → FH → Prop} (k : fm_Y d j as h K) (f : ∀ w H, K w H → ∃ H2, fm_E H = fm_E H2 ∧ K2 w H2) : fm_Y d j as h K2 := eg_Y.imp k (fun v g q => by
  obtain ⟨w, H, a, b, e⟩ := q
  obtain ⟨H2, e1, e2⟩ := f w H e
  exact ⟨w, H2, a, b.trans e1, e2⟩)
theorem fm_Y.eqE {d j : Nat} {as : List Value} {h h2 : FH} {K : Option TV → FH → Prop} (e : fm_E h = fm_E h2) (k : fm_Y d j as h2 K) : fm_Y d j as h K := by
  unfold fm_Y at k ⊢
  rw [e]
  exact k
/-- cells that are the same, cell by cell -/
theorem E_ext {sh sh2 : Nat → Option Shp} {M M2 : FM} {nx zl : Nat} (h : ∀ c, (shp sh c).map (fun s => cellE s (M c)) = (shp sh2 c).map (fun s => cellE s (M2 c))) : fm_E (sh, M, nx, zl) = fm_E (sh2, M2, nx, zl) := by
  refine Prod.ext ?_ rfl
  funext c
  exact h c
/-- a new row of n bytes at r, its bytes behind it -/
def nrS (sh : Nat → Option Shp) (r n : Nat) : Nat → Option Shp := shN (shN sh r (.inr (1, [some (some (r + 1)), none, none]))) (r + 1) (.inl (.byte, n))
def nrM (M : FM) (r : Nat) : FM := um (um M r (fun _ => 0)) (r + 1) (fun _ => 0)
theorem nrS_r {sh : Nat → Option Shp} {r n : Nat} (h : fxN ≤ r) : shp (nrS sh r n) r = some (.inr (1, [some (some (r + 1)), none, none])) := by
  unfold nrS
  rw [shp_O (by omega), shp_N h]
theorem nrS_b {sh : Nat → Option Shp} {r n : Nat} (h : fxN ≤ r) : shp (nrS sh r n) (r + 1) = some (.inl (.byte, n)) := shp_N (by omega)
theorem nrS_o {sh : Nat → Option Shp} {r n c : Nat} (h1 : c ≠ r) (h2 : c ≠ r + 1) : shp (nrS sh r n) c = shp sh c := by
  unfold nrS
  rw [shp_O h2, shp_O h1]
theorem nrM_o {M : FM} {r c : Nat} (h1 : c ≠ r) (h2 : c ≠ r + 1) : nrM M r c = M c := by
  unfold nrM
  rw [um_ne h2, um_ne h1]
theorem nrS_row {sh : Nat → Option Shp} {r n : Nat} (h : fxN ≤ r) (hn : n ≤ 2147483647) : rowS (nrS sh r n) r (r + 1) n := ⟨⟨nrS_r h, nrS_b h⟩, by unfold fxN at h; omega, by unfold fxN at h; omega, by omega, hn⟩
section ALLOC
variable {d nx zl : Nat} {K : Option TV → FH → Prop} {sh : Nat → Option Shp} {M : FM} {F n : Int}
theorem rowInit_Y (hx : fxN ≤ nx) (h0 : 0 ≤ n) (h1 : n ≤ 65536) (k : K none (nrS sh nx n.toNat, nrM M nx, nx + 2, zl + 3 + n.toNat)) : fm_Y (d + 1) 1 [.ref nx, .int (Int32.ofInt n)] (shN sh nx (.inr (1, List.replicate 3 none)), um M nx zr1, nx + 1, zl + 3) K := by
  have hx2 : fxN ≤ nx + 1 := by omega
  have s1 : shp (shN sh nx (.inr (1, List.replicate 3 none))) nx = some (.inr (1, List.replicate 3 none)) := shp_N hx
  have q : fm_Y (d + 1) 1 [.ref nx, .int (Int32.ofInt n)] (shN sh nx (.inr (1, List.replicate 3 none)), um M nx zr1, nx + 1, zl + 3) (fun w H => w = none ∧ H = (shN (shN sh nx (.inr (1, List.replicate 3 none))) (nx + 1) (.inl (.byte, n.toNat)), um (um (um M nx zr1) (nx + 1) (fun _ => 0)) nx (ur (um (um M nx zr1) (nx + 1) (fun _ => 0) nx) 0 ((nx + 1 : Nat) : Int)), nx + 2, zl + 3 + n.toNat)) := by
    refine m1 [gr nx, ti n] ?_
    refine ⟨by omega, ?_⟩
    refine ⟨_, ⟨by unfold fxN at hx; omega, (shp_O (by omega)).trans s1, rfl⟩, ?_⟩
    exact ⟨rfl, rfl⟩
  refine fm_Y.impE q (fun w H e => ?_)
  obtain ⟨rfl, rfl⟩ := e
  refine ⟨_, ?_, k⟩
  refine E_ext (fun c => ?_)
  by_cases e1 : c = nx
  · subst e1
    rw [nrS_r hx, shp_O (by omega), s1]
    simp only [Option.map_some, cellE]
    congr 3
    have a1 : nrM M c c = fun _ => 0 := by
      unfold nrM
      rw [um_ne (by omega), um_at]
    have a2 : um (um M c zr1) (c + 1) (fun _ => 0) c = zr1 := by rw [um_ne (by omega), um_at]
    rw [a1, um_at, a2]
    simp only [List.replicate, fvs]
    congr 1
  · by_cases e2 : c = nx + 1
    · subst e2
      rw [nrS_b hx, shp_N hx2]
      simp only [Option.map_some]
      unfold nrM
      rw [um_ne (by omega), um_at, um_at]
    · rw [nrS_o e1 e2, nrM_o e1 e2, shp_O e2, shp_O e1, um_ne e1, um_ne e2, um_ne e1]
theorem putAll_R {a b c na nc : Nat} {s o p : Int} {f : Int → Int} (hr : rowS sh a b na) (hc : shp sh c = some (.inl (.byte, nc))) (hnc : nc ≤ 2147483647) (hca : c ≠ a) (hcb : c ≠ b) (h0 : 0 ≤ s) (hp : 0 ≤ p) (hn : 0 ≤ n) (h1 : p + n ≤ nc) (h2 : s + n ≤ na) (k : K none (sh, rowW M a b (cpf (M c) f p s n) (s + n) o, nx, zl)) : fm_Y (d + 1) 35 [.ref a, .ref c, .int (Int32.ofInt p), .int (Int32.ofInt n)] (sh, rowW M a b f s o, nx, zl) K := by
  obtain ⟨⟨ha, hb⟩, a3, b3, hab, hna⟩ := hr
  have e1 := rowW_1 M a b f s o
  refine m35 [gr a, gr c, ti p, ti n] ?_
  refine ⟨by omega, fun w => by omega, fun w => ?_⟩
  refine ⟨by omega, fun w => by omega, fun w => ?_⟩
  refine ⟨_, _, hc, ?_⟩
  refine ⟨by omega, fun w => by omega, fun w => ?_⟩
  refine ⟨_, ha, ?_⟩
  refine ⟨_, _, hb, ?_⟩
  refine ⟨_, ha, ?_⟩
  refine ⟨by omega, fun w => ?_, fun w => by omega⟩
  refine ⟨_, ha, ?_⟩
  refine ⟨_, ha, ?_⟩
  refine ⟨.byte, nc, na, ⟨hc, hb⟩, ⟨hnc, hna, hp, by omega, hn, by omega, by omega⟩, ⟨trivial, by decide, b3⟩, ?_⟩
  refine ⟨_, ha, ?_⟩
  refine ⟨_, ⟨a3, ha, rfl⟩, ?_⟩
  have e2 : um (rowW M a b f s o) b (cpf (rowW M a b f s o c) (rowW M a b f s o b) p (rowW M a b f s o a 1) n) = rowW M a b (cpf (M c) f p s n) s o := by
    rw [rowW_ub hab, rowW_o hca hcb, rowW_b hab, e1]
  show K none (sh, um (um (rowW M a b f s o) b (cpf (rowW M a b f s o c) (rowW M a b f s o b) p (rowW M a b f s o a 1) n)) a (ur (um (rowW M a b f s o) b (cpf (rowW M a b f s o c) (rowW M a b f s o b) p (rowW M a b f s o a 1) n) a) 1 (um (rowW M a b f s o) b (cpf (rowW M a b f s o c) (rowW M a b f s o b) p (rowW M a b f s o a 1) n) a 1 + n)), nx, zl)
  rw [e2, rowW_1, rowW_u1]
  exact k
theorem putAll_M {a b c na nc : Nat} {p : Int} (hr : rowS sh a b na) (hc : shp sh c = some (.inl (.byte, nc))) (hnc : nc ≤ 2147483647) (hca : c ≠ a) (hcb : c ≠ b) (h0 : 0 ≤ M a 1) (hp : 0 ≤ p) (hn : 0 ≤ n) (h1 : p + n ≤ nc) (h2 : M a 1 + n ≤ na) (k : K none (sh, rowW M a b (cpf (M c) (M b) p (M a 1) n) (M a 1 + n) (M a 2), nx, zl)) : fm_Y (d + 1) 35 [.ref a, .ref c, .int (Int32.ofInt p), .int (Int32.ofInt n)] (sh, M, nx, zl) K := by
  have q := putAll_R (d := d) (M := M) (s := M a 1) (o := M a 2) (f := M b) hr hc hnc hca hcb h0 hp hn h1 h2 k
  rw [rowW_self] at q
  exact q
theorem sl_cpf {f g : Int → Int} {p s n : Int} (hn : 0 ≤ n) : sl (cpf f g p s n) s n.toNat = sl f p n.toNat := sl_congr _ _ _ (fun i hi => by
  unfold cpf
  rw [if_pos (by omega)]
  congr 2
  omega)
theorem sl_cpf_lo {f g : Int → Int} {p s n a : Int} {m : Nat} (h : a + m ≤ s ∨ s + n ≤ a) : sl (cpf f g p s n) a m = sl g a m := sl_congr _ _ _ (fun i hi => by
  unfold cpf
  rw [if_neg (by omega)])
/-- the first byte 0 of a row -/
theorem indexOf_Y {a b na : Nat} (hr : rowS sh a b na) (h0 : 0 ≤ M a 1) (h1 : M a 1 ≤ na) (k1 : ∀ p : Int, 0 ≤ p → p < M a 1 → M b p % 256 = 0 → (∀ j : Int, 0 ≤ j → j < p → M b j % 256 ≠ 0) → K (some (ti p)) (sh, M, nx, zl)) (k0 : (∀ j : Int, 0 ≤ j → j < M a 1 → M b j % 256 ≠ 0) → K (some (ti (-1))) (sh, M, nx, zl)) : fm_Y (d + 1) 27 [.ref a, .int (Int32.ofInt 0)] (sh, M, nx, zl) K := by
  obtain ⟨⟨ha, hb⟩, a3, b3, hab, hna⟩ := hr
  refine m27 [gr a, ti 0] ?_
  have L : ∀ (N : Nat) (i : Int), (M a 1 - i).toNat < N → 0 ≤ i → i ≤ M a 1 → (∀ j : Int, 0 ≤ j → j < i → M b j % 256 ≠ 0) → fm_X d kd27 2 [some (gr a), some (ti 0), some (ti i)] [] (sh, M, nx, zl) K := by
    intro N
    induction N with
    | zero => intro i h1; omega
    | succ N ih =>
      intro i h2 h3 h4 h5
      refine s27_2 d K _ _ _ ?_
      refine ⟨_, ha, ?_⟩
      refine ⟨by omega, fun w => k0 (fun j hj1 hj2 => h5 j hj1 (by omega)), fun w => ?_⟩
      refine ⟨_, ha, ?_⟩
      refine ⟨na, hb, by omega, ?_⟩
      refine ⟨by omega, fun w2 => ?_, fun w2 => k1 i h3 w (by omega) h5⟩
      refine ih (i + 1) (by omega) (by omega) (by omega) (fun j hj1 hj2 => ?_)
      by_cases e : j = i
      · subst e
        omega
      · exact h5 j hj1 (by omega)
  exact L ((M a 1).toNat + 1) 0 (by omega) (by omega) h0 (fun j hj1 hj2 => by omega)
end ALLOC
