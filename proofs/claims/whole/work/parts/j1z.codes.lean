/-! PACKING: codes, as they are said -/
/-- the first code of a length -/
def fstL (ls : Int → Int) (n : Nat) : Nat → Int
  | 0 => 0
  | l + 1 => 2 * (fstL ls n l + (if l = 0 then 0 else cnt ls n l))
/-- the code of a symbol -/
def cdC (ls : Int → Int) (n s : Nat) : Int := fstL ls n (ls s).toNat + cnt ls s (ls s)
/-- k bits, the other way round -/
def rvB (v : Int) : Nat → Int
  | 0 => 0
  | k + 1 => 2 * rvB v k + v / 2 ^ k % 2
/-- a code of the class: lengths and turned codes -/
def cdT (M : FM) (c1 c2 : Nat) (ls : Int → Int) (n : Nat) : Prop := ∀ s : Nat, s < n → (M c1 s = ls s ∧ 0 ≤ ls s ∧ ls s ≤ 15) ∧ M c2 s = rvB (cdC ls n s) (ls s).toNat
