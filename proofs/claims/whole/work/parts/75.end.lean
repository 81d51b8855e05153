/-! CALLS of both: end; the tape used up -/
section END
variable {V : FM → Prop} {L d : Nat} {xs : Nat → Int32}
theorem call_end (hV : keepsV V) {n : Int} (hn : -2147483648 ≤ n ∧ n ≤ 2147483647) : ca_I V L xs (d + 1) 20 241 [.int (Int32.ofInt n)] := by
  intro k H hR
  obtain ⟨sh, M, nx, zl⟩ := H
  have hR0 := hR
  obtain ⟨hBase, ⟨⟨t1, t2⟩, t3, t4, t5, t6⟩, ⟨⟨o1, o2⟩, o3, o4⟩, hT, hv⟩ := hR
  dsimp only at t1 t2 t3 t4 t5 t6 o1 o2 o3 o4
  have BAD : (M 168 2 % 2 = 0 ∨ n < 0 ∨ 20 < n) → (∃ x : Int, (some (ti (-1)) : Option TV) = some (ti x) ∧ (sh 0 = sh 0 ∧ M 0 = M 0) ∧ fm_Y (d + 1) 241 [.ref 168, .int (Int32.ofInt n)] (sh, M, nx, zl) (fun w2 H2 => w2 = some (ti x) ∧ RR V L xs (k + 1) H2)) := by
    intro hb
    refine ⟨-1, rfl, ⟨rfl, rfl⟩, mend hn t1 t2 (fun _ => ?_) (fun q1 q2 q3 => by omega)⟩
    exact ⟨rfl, baseR_up hBase rfl, ⟨⟨t1, t2⟩, t3, t4, t5, t6⟩, ⟨⟨o1, o2⟩, o3, o4⟩, hT, hv⟩
  refine m20 [fx 3, ti n] ?_
  refine ⟨by omega, fun w => BAD (by omega), fun w => ?_⟩
  refine ⟨by omega, fun w2 => BAD (by omega), fun w2 => ?_⟩
  refine ⟨by omega, fun w3 => ?_, fun w3 => BAD (by omega)⟩
  refine ⟨Or.inl rfl, ?_⟩
  have h20 := t6 (by omega)
  refine ⟨M 168 1 - 20 + n, ?_, ⟨rfl, rfl⟩, ?_⟩
  · show some (ti (M 4 1 - (20 - n))) = _
    rw [t3, show M 168 1 - (20 - n) = M 168 1 - 20 + n by omega]
  generalize hM1 : um (um M 4 (ur (M 4) 1 (M 4 1 - (20 - n)))) 3 (ur (um M 4 (ur (M 4) 1 (M 4 1 - (20 - n))) 3) 5 0) = M1
  have uo : ∀ c : Nat, c ≠ 3 → c ≠ 4 → M1 c = M c := by
    intro c q1 q2
    rw [← hM1, um_ne q1, um_ne q2]
  have u3 : M1 3 = ur (M 3) 5 0 := by rw [← hM1]; rfl
  have u4 : M1 4 1 = M 168 1 - 20 + n := by
    rw [← hM1]
    show M 4 1 - (20 - n) = _
    omega
  have e168 := uo 168 (by decide) (by decide)
  refine mend hn (by rw [e168]; exact t1) (by rw [e168]; exact t2) (fun q => by rw [e168] at q; omega) (fun q1 q2 q3 => ?_)
  rw [e168]
  refine ⟨rfl, RR_to hV hR0 ?_ ?_ ?_ ?_ ?_⟩
  · intro c q1 q2 q3 q4 q5 q6 q7 q8
    rw [um_ne q6]
    exact uo c q1 q2
  · intro i q1 q2 q3
    rw [um_at, ur_ne q2, ur_ne q1]
  · show M1 3 6 = _ ∧ M1 3 7 = _
    rw [u3]
    exact ⟨rfl, rfl⟩
  · refine ⟨?_, ?_, ?_, ?_, ?_⟩
    · show 0 ≤ M 168 1 - 20 + n ∧ M 168 1 - 20 + n ≤ 16384
      omega
    · exact u4
    · show sl (M1 5) 0 (M 168 1 - 20 + n).toNat = sl (M1 169) 0 (M 168 1 - 20 + n).toNat
      rw [uo 5 (by decide) (by decide), uo 169 (by decide) (by decide)]
      have q := sl_inj _ _ _ t4
      exact sl_congr _ _ _ (fun i hi => q i (by omega))
    · show M1 3 5 % 2 = 0 % 2
      rw [u3]
      rfl
    · intro q
      exact absurd rfl q
  · refine ⟨⟨o1, o2⟩, ?_, ?_⟩
    · show M1 6 1 = M 168 4
      rw [uo 6 (by decide) (by decide)]
      exact o3
    · show sl (M1 7) 0 (M 168 4).toNat = sl (M1 170) 0 (M 168 4).toNat
      rw [uo 7 (by decide) (by decide), uo 170 (by decide) (by decide)]
      exact o4
/-- the class's tape is used up -/
def utC (M : FM) : FM := um (um M 4 (ur (ur (M 4) 1 0) 2 0)) 3 (ur (M 3) 5 0)
theorem useTape_Y {nx zl : Nat} {K : Option TV → FH → Prop} {sh : Nat → Option Shp} {M : FM} (k : K none (sh, utC M, nx, zl)) : fm_Y (d + 2) 37 [.ref 3] (sh, M, nx, zl) K := by
  refine m37 [fx 3] ?_
  have q := clear_Y (d := d) (nx := nx) (sl := zl) (M := M) (a := 4) (b := 5) (n := 16384) (f := M 5) (s := M 4 1) (o := M 4 2) (K := fun w h2 => o_al 0 (o_ic 0 (o_put 0 5 5 (o_ret K))) [some (fx 3)] (w.toList ++ []) h2) (rowS_4 sh) ?_
  · rw [rowW_self] at q
    exact q
  · refine ⟨Or.inl rfl, ?_⟩
    have e : rowW M 4 5 (M 5) 0 0 = um M 4 (ur (ur (M 4) 1 0) 2 0) := by
      unfold rowW
      rw [um_self]
    rw [e]
    exact k
/-- the reference's -/
def utM (M : FM) : FM := um M 168 (ur (ur (M 168) 1 0) 2 0)
theorem muse_Y {nx zl : Nat} {K : Option TV → FH → Prop} {sh : Nat → Option Shp} {M : FM} (k : K (some (ti (M 168 1))) (sh, utM M, nx, zl)) : fm_Y (d + 1) 246 [.ref 168] (sh, M, nx, zl) K := by
  refine m246 [fx 168] ?_
  refine ⟨Or.inl rfl, ?_⟩
  have e : um (um M 168 (ur (M 168) 1 0)) 168 (ur (um M 168 (ur (M 168) 1 0) 168) 2 0) = utM M := by
    unfold utM
    rw [um_um, um_at]
  rw [← e] at k
  exact k
end END
