/-! TABLES, printed by wip/gen/gen.py: trees -/
def eg_nd {α : Type} (k : Nat) (a b : Nat → Option α) : Nat → Option α := fun n => bif Nat.blt n k then a n else b n
def eg_lf {α : Type} (k : Nat) (x : α) : Nat → Option α := fun n => bif Nat.beq n k then some x else none
def eg_al {α : Type} (P : Nat → α → Prop) (f : Nat → Option α) : Prop := ∀ (n : Nat) (x : α), f n = some x → P n x
theorem eg_al_nd {α : Type} {P : Nat → α → Prop} {k : Nat} {a b : Nat → Option α} (ha : eg_al P a) (hb : eg_al P b) : eg_al P (eg_nd k a b) := by
  intro n x h
  unfold eg_nd at h
  cases hk : Nat.blt n k with
  | true => rw [hk] at h; exact ha n x h
  | false => rw [hk] at h; exact hb n x h
theorem eg_al_lf {α : Type} {P : Nat → α → Prop} {k : Nat} {y : α} (h : P k y) : eg_al P (eg_lf k y) := by
  intro n x q
  unfold eg_lf at q
  cases hk : Nat.beq n k with
  | true =>
    rw [hk] at q
    have e : n = k := Nat.eq_of_beq_eq_true hk
    subst e
    have e2 : y = x := Option.some.inj q
    rw [← e2]
    exact h
  | false => rw [hk] at q; cases q

