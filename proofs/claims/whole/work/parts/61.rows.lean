/-! CONTRACTS: the class's rows of bytes -/
/-- a is a row whose bytes lie at b, n of them -/
def rowS (sh : Nat → Option Shp) (a b n : Nat) : Prop := (shp sh a = some (.inr (1, [some (some b), none, none])) ∧ shp sh b = some (.inl (.byte, n))) ∧ 3 ≤ a ∧ 3 ≤ b ∧ a ≠ b ∧ n ≤ 2147483647
/-- one byte more -/
def rb_1 (M : FM) (a b : Nat) (x : Int) : FM := um (um M b (ur (M b) (M a 1) ((x + 128) % 256 - 128))) a (ur (M a) 1 (M a 1 + 1))
def rb_o (M : FM) (a : Nat) : FM := um M a (ur (M a) 2 1)
def rb_p (n : Nat) (M : FM) (a b : Nat) (x : Int) : FM := if M a 1 < n then rb_1 M a b x else rb_o M a
section ROWS
variable {d nx sl a b n : Nat} {K : Option TV → FH → Prop} {sh : Nat → Option Shp} {M : FM} {x : Int}
theorem put_Y (hr : rowS sh a b n) (h0 : 0 ≤ M a 1) (h1 : M a 1 ≤ n) (k : K none (sh, rb_p n M a b x, nx, sl)) : fm_Y (d + 1) 19 [.ref a, .int (Int32.ofInt x)] (sh, M, nx, sl) K := by
  obtain ⟨⟨ha, hb⟩, a3, b3, hab, hn⟩ := hr
  refine m19 [gr a, ti x] ?_
  refine ⟨_, ha, ?_⟩
  refine ⟨_, ha, ?_⟩
  refine ⟨_, _, hb, ?_⟩
  refine ⟨by omega, fun hc => ?_, fun hc => ?_⟩
  · refine ⟨_, ha, ?_⟩
    refine ⟨_, ha, ?_⟩
    refine ⟨_, hb, ⟨b3, hn, h0, hc⟩, ?_⟩
    refine ⟨_, ha, ?_⟩
    refine ⟨_, ⟨a3, ha, rfl⟩, ?_⟩
    have e : rb_p n M a b x = rb_1 M a b x := if_pos hc
    rw [e] at k
    unfold rb_1 at k
    rw [show ur (M a) = ur (um M b (ur (M b) (M a 1) ((x + 128) % 256 - 128)) a) by rw [um_ne hab], show M a 1 + 1 = um M b (ur (M b) (M a 1) ((x + 128) % 256 - 128)) a 1 + 1 by rw [um_ne hab]] at k
    exact k
  · refine ⟨_, ⟨a3, ha, rfl⟩, ?_⟩
    refine ⟨Or.inr rfl, ?_⟩
    have e : rb_p n M a b x = rb_o M a := if_neg (by omega)
    rw [e] at k
    exact k
end ROWS
