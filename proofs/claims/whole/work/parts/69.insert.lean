/-! CONTRACTS: an entry more, in the class's cells -/
/-- what insert makes of the cells -/
def insF (M M2 : FM) (p : Int) (af ac tb r : Nat) (n : Int) : Prop :=
  (M2 r 1 = n ∧ sl (M2 (r + 1)) 0 n.toNat = sl (M tb) 0 n.toNat)
  ∧ (∀ i : Int, 0 ≤ i → i ≤ M 8 7 → M2 12 i = ins (M 12) p af i ∧ M2 13 i = ins (M 13) p ac i ∧ M2 14 i = ins (M 14) p r i)
  ∧ M2 8 = ur (ur (M 8) 7 (M 8 7 + 1)) 8 (M 8 8 + n)
  ∧ M2 af = ur (M af) 10 (M af 10 + 1) ∧ M2 ac = ur (M ac) 9 (M ac 9 + 1)
  ∧ ∀ c : Nat, c ≠ 8 → c ≠ 12 → c ≠ 13 → c ≠ 14 → c ≠ af → c ≠ ac → c ≠ r → c ≠ r + 1 → M2 c = M c
theorem cp_ins {f : Int → Int} {p e i x : Int} (h0 : 0 ≤ p) (h1 : p ≤ e) (h2 : 0 ≤ i) (h3 : i ≤ e) : ur (cpf f f p (p + 1) (e - p)) p x i = ins f p x i := by
  unfold ins
  by_cases a1 : i < p
  · rw [if_pos a1, ur_ne (by omega)]
    unfold cpf
    rw [if_neg (by omega)]
  · rw [if_neg a1]
    by_cases a2 : i = p
    · rw [if_pos a2, a2, ur_at]
    · rw [if_neg a2, ur_ne a2]
      unfold cpf
      rw [if_pos (by omega)]
      congr 1
      omega
section INSERT
variable {d nx zl : Nat} {K : Option TV → FH → Prop} {sh : Nat → Option Shp} {M : FM} {F n : Int}
theorem rok_3 {x : Int} {a : Nat} {fl : List (Option (Option Nat))} (h : x = a) (hs : shp sh a = some (.inr (3, fl))) : rok sh "FrozenVolume$Node" x := by
  intro _
  subst h
  rw [Int.toNat_natCast]
  exact ⟨3, fl, _, hs, rfl, rfl⟩
theorem rok_1 {x : Int} {a : Nat} {fl : List (Option (Option Nat))} (h : x = a) (hs : shp sh a = some (.inr (1, fl))) : rok sh "FrozenVolume$Row" x := by
  intro _
  subst h
  rw [Int.toNat_natCast]
  exact ⟨1, fl, _, hs, rfl, rfl⟩
theorem insert_Y {af ac t tb tn : Nat} {p : Int} {h1 t1 h2 t2 : Option Nat} (hx : fxN ≤ nx) (hfr : ∀ c, nx ≤ c → sh c = none) (ht : rowS sh t tb tn) (hn0 : 0 ≤ n) (hn : n ≤ tn) (hn2 : n ≤ 16384) (hsf : shp sh af = some (.inr (3, nodeFl h1 t1))) (hsc : shp sh ac = some (.inr (3, nodeFl h2 t2))) (hf17 : af = 17 ∨ 265 ≤ af) (hc17 : ac = 17 ∨ 265 ≤ ac) (hac : af ≠ ac)
    (hp0 : 0 ≤ p) (hp1 : p ≤ M 8 7) (he : M 8 7 < 2000)
    (h12 : ∀ k : Int, 0 ≤ k → k < M 8 7 → ∃ (a : Nat) (fl : List (Option (Option Nat))), M 12 k = a ∧ shp sh a = some (.inr (3, fl))) (h13 : ∀ k : Int, 0 ≤ k → k < M 8 7 → ∃ (a : Nat) (fl : List (Option (Option Nat))), M 13 k = a ∧ shp sh a = some (.inr (3, fl))) (h14 : ∀ k : Int, 0 ≤ k → k < M 8 7 → ∃ (a : Nat) (fl : List (Option (Option Nat))), M 14 k = a ∧ shp sh a = some (.inr (1, fl)))
    (k : ∀ M2 : FM, insF M M2 p af ac tb nx n → K none (nrS sh nx n.toNat, M2, nx + 2, zl + 3 + n.toNat)) : fm_Y (d + 2) 36 [.ref 8, .int (Int32.ofInt p), .ref af, .ref ac, .ref t, .int (Int32.ofInt n)] (sh, M, nx, zl) K := by
  have hx2 : 265 ≤ nx := hx
  have NS : ∀ c, shp sh c ≠ none → c ≠ nx ∧ c ≠ nx + 1 := by
    intro c hc
    constructor
    · intro e
      subst e
      apply hc
      unfold shp
      rw [fsh_hi hx]
      exact hfr c (Nat.le_refl c)
    · intro e
      subst e
      apply hc
      unfold shp
      rw [fsh_hi (by omega)]
      exact hfr _ (by omega)
  obtain ⟨⟨ht1, ht2⟩, t3, tb3, ttb, htn⟩ := ht
  have nt := NS t (by rw [ht1]; intro q; cases q)
  have ntb := NS tb (by rw [ht2]; intro q; cases q)
  have nf := NS af (by rw [hsf]; intro q; cases q)
  have nc := NS ac (by rw [hsc]; intro q; cases q)
  have hsf2 : shp (nrS sh nx n.toNat) af = some (.inr (3, nodeFl h1 t1)) := (nrS_o nf.1 nf.2).trans hsf
  have hsc2 : shp (nrS sh nx n.toNat) ac = some (.inr (3, nodeFl h2 t2)) := (nrS_o nc.1 nc.2).trans hsc
  refine m36 [fx 8, ti p, gr af, gr ac, gr t, ti n] ?_
  refine ⟨hx, ?_⟩
  refine rowInit_Y hx hn0 (by omega) ?_
  refine ⟨_, (nrS_o nt.1 nt.2).trans ht1, ?_⟩
  refine ⟨⟨_, nrS_r hx⟩, ?_⟩
  have z1 : nrM M nx nx 1 = 0 := by
    unfold nrM
    rw [um_ne (by omega), um_at]
  refine putAll_M (a := nx) (b := nx + 1) (c := tb) (na := n.toNat) (nc := tn) (nrS_row hx (by omega)) ((nrS_o ntb.1 ntb.2).trans ht2) htn ntb.1 ntb.2 (by omega) (by omega) hn0 (by omega) (by omega) ?_
  rw [z1, nrM_o ntb.1 ntb.2]
  generalize hR : rowW (nrM M nx) nx (nx + 1) (cpf (M tb) (nrM M nx (nx + 1)) 0 0 n) (0 + n) (nrM M nx nx 2) = R
  have R_o : ∀ c, c ≠ nx → c ≠ nx + 1 → R c = M c := by
    intro c q1 q2
    rw [← hR, rowW_o q1 q2, nrM_o q1 q2]
  have R_1 : R nx 1 = n := by
    rw [← hR, rowW_1]
    omega
  have R_b : sl (R (nx + 1)) 0 n.toNat = sl (M tb) 0 n.toNat := by
    rw [← hR, rowW_b (by omega), sl_cpf hn0]
  have R8 := R_o 8 (by omega) (by omega)
  have R12 := R_o 12 (by omega) (by omega)
  have R13 := R_o 13 (by omega) (by omega)
  have R14 := R_o 14 (by omega) (by omega)
  have r12 : ∀ i : Int, p ≤ i → i < p + (M 8 7 - p) → rok (nrS sh nx n.toNat) "FrozenVolume$Node" (M 12 i) := by
    intro i i1 i2
    obtain ⟨a, fl, q1, q2⟩ := h12 i (by omega) (by omega)
    have na := NS a (by rw [q2]; intro q; cases q)
    exact rok_3 q1 ((nrS_o na.1 na.2).trans q2)
  have r13 : ∀ i : Int, p ≤ i → i < p + (M 8 7 - p) → rok (nrS sh nx n.toNat) "FrozenVolume$Node" (M 13 i) := by
    intro i i1 i2
    obtain ⟨a, fl, q1, q2⟩ := h13 i (by omega) (by omega)
    have na := NS a (by rw [q2]; intro q; cases q)
    exact rok_3 q1 ((nrS_o na.1 na.2).trans q2)
  have r14 : ∀ i : Int, p ≤ i → i < p + (M 8 7 - p) → rok (nrS sh nx n.toNat) "FrozenVolume$Row" (M 14 i) := by
    intro i i1 i2
    obtain ⟨a, fl, q1, q2⟩ := h14 i (by omega) (by omega)
    have na := NS a (by rw [q2]; intro q; cases q)
    exact rok_1 q1 ((nrS_o na.1 na.2).trans q2)
  have R87 : R 8 7 = M 8 7 := by rw [R8]
  refine ⟨.object "FrozenVolume$Node", 2000, 2000, ⟨rfl, rfl⟩, by omega, ⟨fun i i1 i2 => by rw [R12]; exact r12 i i1 (by omega), by decide, by decide⟩, ?_⟩
  generalize g1 : um R 12 (cpf (R 12) (R 12) p (p + 1) (R 8 7 - p)) = R1
  have o1 : ∀ c, c ≠ 12 → R1 c = R c := fun c hc => by rw [← g1, um_ne hc]
  have a1 : R1 12 = cpf (M 12) (M 12) p (p + 1) (M 8 7 - p) := by rw [← g1, um_at, R12, R87]
  have q1 : R1 8 7 = M 8 7 := by rw [o1 8 (by decide), R8]
  have w1 : R1 13 = M 13 := by rw [o1 13 (by decide), R13]
  refine ⟨.object "FrozenVolume$Node", 2000, 2000, ⟨rfl, rfl⟩, by omega, ⟨fun i i1 i2 => by rw [w1]; exact r13 i i1 (by omega), by decide, by decide⟩, ?_⟩
  generalize g2 : um R1 13 (cpf (R1 13) (R1 13) p (p + 1) (R1 8 7 - p)) = R2
  have o2 : ∀ c, c ≠ 13 → R2 c = R1 c := fun c hc => by rw [← g2, um_ne hc]
  have a2 : R2 13 = cpf (M 13) (M 13) p (p + 1) (M 8 7 - p) := by rw [← g2, um_at, w1, q1]
  have q2 : R2 8 7 = M 8 7 := by rw [o2 8 (by decide), q1]
  have w2 : R2 14 = M 14 := by rw [o2 14 (by decide), o1 14 (by decide), R14]
  refine ⟨.object "FrozenVolume$Row", 2000, 2000, ⟨rfl, rfl⟩, by omega, ⟨fun i i1 i2 => by rw [w2]; exact r14 i i1 (by omega), by decide, by decide⟩, ?_⟩
  generalize g3 : um R2 14 (cpf (R2 14) (R2 14) p (p + 1) (R2 8 7 - p)) = R3
  have o3 : ∀ c, c ≠ 14 → R3 c = R2 c := fun c hc => by rw [← g3, um_ne hc]
  have a3 : R3 14 = cpf (M 14) (M 14) p (p + 1) (M 8 7 - p) := by rw [← g3, um_at, w2, q2]
  refine ⟨by omega, rok_3 rfl hsf2, ?_⟩
  generalize g4 : um R3 12 (ur (R3 12) p (af : Int)) = R4
  have o4 : ∀ c, c ≠ 12 → R4 c = R3 c := fun c hc => by rw [← g4, um_ne hc]
  have a4 : R4 12 = ur (cpf (M 12) (M 12) p (p + 1) (M 8 7 - p)) p af := by rw [← g4, um_at, o3 12 (by decide), o2 12 (by decide), a1]
  refine ⟨by omega, rok_3 rfl hsc2, ?_⟩
  generalize g5 : um R4 13 (ur (R4 13) p (ac : Int)) = R5
  have o5 : ∀ c, c ≠ 13 → R5 c = R4 c := fun c hc => by rw [← g5, um_ne hc]
  have a5 : R5 13 = ur (cpf (M 13) (M 13) p (p + 1) (M 8 7 - p)) p ac := by rw [← g5, um_at, o4 13 (by decide), o3 13 (by decide), a2]
  refine ⟨by omega, rok_1 rfl (nrS_r hx), ?_⟩
  generalize g6 : um R5 14 (ur (R5 14) p (nx : Int)) = R6
  have o6 : ∀ c, c ≠ 14 → R6 c = R5 c := fun c hc => by rw [← g6, um_ne hc]
  have a6 : R6 14 = ur (cpf (M 14) (M 14) p (p + 1) (M 8 7 - p)) p nx := by rw [← g6, um_at, o5 14 (by decide), o4 14 (by decide), a3]
  have b6 : R6 8 = M 8 := by rw [o6 8 (by decide), o5 8 (by decide), o4 8 (by decide), o3 8 (by decide), o2 8 (by decide), o1 8 (by decide), R8]
  have O6 : ∀ c, c ≠ 12 → c ≠ 13 → c ≠ 14 → R6 c = R c := fun c h1 h2 h3 => by rw [o6 c h3, o5 c h2, o4 c h1, o3 c h3, o2 c h2, o1 c h1]
  refine ⟨_, hsf2, ?_⟩
  generalize g7 : um R6 8 (ur (R6 8) 7 (R6 8 7 + 1)) = R7
  have o7 : ∀ c, c ≠ 8 → R7 c = R6 c := fun c hc => by rw [← g7, um_ne hc]
  have a7 : R7 8 = ur (M 8) 7 (M 8 7 + 1) := by rw [← g7, um_at, b6]
  generalize g8 : um R7 8 (ur (R7 8) 8 (R7 8 8 + n)) = S8
  have o8 : ∀ c, c ≠ 8 → S8 c = R7 c := fun c hc => by rw [← g8, um_ne hc]
  have a8 : S8 8 = ur (ur (M 8) 7 (M 8 7 + 1)) 8 (M 8 8 + n) := by
    rw [← g8, um_at, a7]
    rfl
  refine ⟨_, ⟨by omega, hsf2, rfl⟩, ?_⟩
  generalize g9 : um S8 af (ur (S8 af) 10 (S8 af 10 + 1)) = S9
  have f8 : S8 af = M af := by rw [o8 af (by omega), o7 af (by omega), O6 af (by omega) (by omega) (by omega), R_o af nf.1 nf.2]
  have o9 : ∀ c, c ≠ af → S9 c = S8 c := fun c hc => by rw [← g9, um_ne hc]
  have a9 : S9 af = ur (M af) 10 (M af 10 + 1) := by rw [← g9, um_at, f8]
  refine ⟨_, hsc2, ?_⟩
  refine ⟨_, ⟨by omega, hsc2, rfl⟩, ?_⟩
  have c9 : S9 ac = M ac := by rw [o9 ac (fun q => hac q.symm), o8 ac (by omega), o7 ac (by omega), O6 ac (by omega) (by omega) (by omega), R_o ac nc.1 nc.2]
  subst g9
  refine k _ ⟨?_, ?_, ?_, ?_, ?_, ?_⟩
  · rw [um_ne (fun q => nc.1 q.symm), um_ne (fun q => nc.2 q.symm), o9 nx (fun q => nf.1 q.symm), o9 (nx + 1) (fun q => nf.2 q.symm), o8 nx (by omega), o8 (nx + 1) (by omega), o7 nx (by omega), o7 (nx + 1) (by omega), O6 nx (by omega) (by omega) (by omega), O6 (nx + 1) (by omega) (by omega) (by omega)]
    exact ⟨R_1, R_b⟩
  · intro i i1 i2
    have A : ∀ c x y, c ≠ ac → c ≠ af → c ≠ 8 → um (um S8 af x) ac y c = R6 c := fun c x y h1 h2 h3 => by rw [um_ne h1, um_ne h2, o8 c h3, o7 c h3]
    rw [A 12 _ _ (by omega) (by omega) (by omega), A 13 _ _ (by omega) (by omega) (by omega), A 14 _ _ (by omega) (by omega) (by omega), a6, o6 12 (by decide), o6 13 (by decide), a5, o5 12 (by decide), a4]
    exact ⟨cp_ins hp0 hp1 i1 i2, cp_ins hp0 hp1 i1 i2, cp_ins hp0 hp1 i1 i2⟩
  · rw [um_ne (by omega), o9 8 (by omega), a8]
  · rw [um_ne hac, a9]
  · rw [um_at, c9]
  · intro c h1 h2 h3 h4 h5 h6 h7 h8
    rw [um_ne h6, o9 c h5, o8 c h1, o7 c h1, O6 c h2 h3 h4, R_o c h7 h8]
end INSERT
