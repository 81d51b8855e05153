/-! CONTRACTS: the class's rows of bytes -/
/-- a is a row whose bytes lie at b, n of them -/
def rowS (sh : Nat → Option Shp) (a b n : Nat) : Prop := (shp sh a = some (.inr (1, [some (some b), none, none])) ∧ shp sh b = some (.inl (.byte, n))) ∧ 3 ≤ a ∧ 3 ≤ b ∧ a ≠ b ∧ n ≤ 2147483647
/-- the row with other bytes, size and mark -/
def rowW (M : FM) (a b : Nat) (f : Int → Int) (s o : Int) : FM := um (um M b f) a (ur (ur (M a) 1 s) 2 o)
theorem rowW_1 (M : FM) (a b : Nat) (f : Int → Int) (s o : Int) : rowW M a b f s o a 1 = s := by
  unfold rowW
  rw [um_at, ur_ne (by omega), ur_at]
theorem rowW_2 (M : FM) (a b : Nat) (f : Int → Int) (s o : Int) : rowW M a b f s o a 2 = o := by
  unfold rowW
  rw [um_at, ur_at]
theorem rowW_b {M : FM} {a b : Nat} {f : Int → Int} {s o : Int} (hab : a ≠ b) : rowW M a b f s o b = f := by
  unfold rowW
  rw [um_ne (fun q => hab q.symm), um_at]
theorem rowW_o {M : FM} {a b c : Nat} {f : Int → Int} {s o : Int} (h1 : c ≠ a) (h2 : c ≠ b) : rowW M a b f s o c = M c := by
  unfold rowW
  rw [um_ne h1, um_ne h2]
theorem rowW_self (M : FM) (a b : Nat) : rowW M a b (M b) (M a 1) (M a 2) = M := by
  unfold rowW
  rw [ur_self, ur_self, um_self, um_self]
theorem rowW_ub {M : FM} {a b : Nat} {f g : Int → Int} {s o : Int} (hab : a ≠ b) : um (rowW M a b f s o) b g = rowW M a b g s o := by
  funext c
  by_cases e : c = b
  · subst e
    rw [um_at, rowW_b hab]
  · rw [um_ne e]
    unfold rowW
    by_cases e2 : c = a
    · subst e2
      rw [um_at, um_at]
    · rw [um_ne e2, um_ne e2, um_ne e, um_ne e]
theorem ur_12 (f : Int → Int) (s o t : Int) : ur (ur (ur f 1 s) 2 o) 1 t = ur (ur f 1 t) 2 o := by
  funext i
  simp only [ur]
  by_cases e1 : i = 1
  · subst e1
    simp
  · by_cases e2 : i = 2 <;> simp [e1, e2]
theorem ur_22 (f : Int → Int) (s o t : Int) : ur (ur (ur f 1 s) 2 o) 2 t = ur (ur f 1 s) 2 t := by
  funext i
  simp only [ur]
  by_cases e2 : i = 2 <;> simp [e2]
theorem rowW_u1 (M : FM) (a b : Nat) (f : Int → Int) (s o t : Int) : um (rowW M a b f s o) a (ur (rowW M a b f s o a) 1 t) = rowW M a b f t o := by
  unfold rowW
  rw [um_um, um_at, ur_12]
theorem rowW_u2 (M : FM) (a b : Nat) (f : Int → Int) (s o t : Int) : um (rowW M a b f s o) a (ur (rowW M a b f s o a) 2 t) = rowW M a b f s t := by
  unfold rowW
  rw [um_um, um_at, ur_22]
section ROWS
variable {d nx sl a b n : Nat} {K : Option TV → FH → Prop} {sh : Nat → Option Shp} {M : FM} {x s o : Int} {f : Int → Int}
theorem put_Y (hr : rowS sh a b n) (h0 : 0 ≤ s) (h1 : s ≤ n) (k1 : s < n → K none (sh, rowW M a b (ur f s (by1 x 1)) (s + 1) o, nx, sl)) (k2 : s = n → K none (sh, rowW M a b f s 1, nx, sl)) : fm_Y (d + 1) 19 [.ref a, .int (Int32.ofInt x)] (sh, rowW M a b f s o, nx, sl) K := by
  obtain ⟨⟨ha, hb⟩, a3, b3, hab, hn⟩ := hr
  have e1 := rowW_1 M a b f s o
  refine m19 [gr a, ti x] ?_
  refine ⟨_, ha, ?_⟩
  refine ⟨_, ha, ?_⟩
  refine ⟨_, _, hb, ?_⟩
  refine ⟨by omega, fun hc => ?_, fun hc => ?_⟩
  · refine ⟨_, ha, ?_⟩
    refine ⟨_, ha, ?_⟩
    refine ⟨_, hb, ⟨b3, hn, by omega, hc⟩, ?_⟩
    refine ⟨_, ha, ?_⟩
    refine ⟨_, ⟨a3, ha, rfl⟩, ?_⟩
    have k := k1 (by omega)
    rw [← rowW_u1 M a b _ s, ← rowW_ub (f := f) hab] at k
    unfold by1 at k
    rw [Int.ediv_one] at k
    have e2 : um (rowW M a b f s o) b (ur f s ((x + 128) % 256 - 128)) a 1 = s := by rw [um_ne hab, e1]
    rw [show s + 1 = um (rowW M a b f s o) b (ur f s ((x + 128) % 256 - 128)) a 1 + 1 by rw [e2]] at k
    have e3 : ur (rowW M a b f s o b) (rowW M a b f s o a 1) ((x + 128) % 256 - 128) = ur f s ((x + 128) % 256 - 128) := by rw [e1, rowW_b hab]
    rw [← e3] at k
    exact k
  · refine ⟨_, ⟨a3, ha, rfl⟩, ?_⟩
    refine ⟨Or.inr rfl, ?_⟩
    have k := k2 (by omega)
    rw [← rowW_u2 M a b f s o 1] at k
    exact k
theorem put_R (hr : rowS sh a b n) (h0 : 0 ≤ s) (h1 : s < n) (k1 : K none (sh, rowW M a b (ur f s (by1 x 1)) (s + 1) o, nx, sl)) : fm_Y (d + 1) 19 [.ref a, .int (Int32.ofInt x)] (sh, rowW M a b f s o, nx, sl) K := put_Y hr h0 (by omega) (fun _ => k1) (fun q => by omega)
theorem by1_1 (x q : Int) : by1 (x / q) 1 = by1 x q := by
  unfold by1
  rw [Int.ediv_one]
/-- room for all -/
theorem putH_R (hr : rowS sh a b n) (hx : -2147483648 ≤ x ∧ x ≤ 2147483647) (h0 : 0 ≤ s) (h1 : s + 4 ≤ n) (k : K none (sh, rowW M a b (tb4 f s x) (s + 4) o, nx, sl)) : fm_Y (d + 2) 18 [.ref a, .int (Int32.ofInt x)] (sh, rowW M a b f s o, nx, sl) K := by
  refine m18 [gr a, ti x] ?_
  refine ⟨hx, ⟨_, hr.1.1⟩, put_R hr h0 (by omega) ?_⟩
  refine ⟨hx, ⟨_, hr.1.1⟩, put_R hr (by omega) (by omega) ?_⟩
  refine ⟨hx, ⟨_, hr.1.1⟩, put_R hr (by omega) (by omega) ?_⟩
  refine ⟨⟨_, hr.1.1⟩, put_R hr (by omega) (by omega) ?_⟩
  unfold tb4 at k
  rw [by1_1, by1_1, by1_1]
  rw [show s + 2 = s + 1 + 1 by omega, show s + 3 = s + 1 + 1 + 1 by omega, show s + 4 = s + 1 + 1 + 1 + 1 by omega] at k
  exact k
theorem clear_Y (hr : rowS sh a b n) (k : K none (sh, rowW M a b f 0 0, nx, sl)) : fm_Y (d + 1) 38 [.ref a] (sh, rowW M a b f s o, nx, sl) K := by
  obtain ⟨⟨ha, hb⟩, a3, b3, hab, hn⟩ := hr
  refine m38 [gr a] ?_
  refine ⟨_, ⟨a3, ha, rfl⟩, ?_⟩
  refine ⟨_, ⟨a3, ha, rfl⟩, ?_⟩
  refine ⟨Or.inl rfl, ?_⟩
  rw [← rowW_u2 M a b f 0 o 0, ← rowW_u1 M a b f s o 0] at k
  exact k
end ROWS
