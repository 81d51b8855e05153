/-! CALLS of both: drop, the reference -/
def mdF (M M2 : FM) (p x n : Int) : Prop :=
  (∀ i : Int, 0 ≤ i → i < M 168 20 - 1 → M2 183 i = del (M 183) p i ∧ M2 184 i = del (M 184) p i ∧ M2 185 i = dlp (M 185 p) n (del (M 185) p i) ∧ M2 186 i = del (M 186) p i)
  ∧ M2 168 = ur (ur (M 168) 26 (M 168 26 - n)) 20 (M 168 20 - 1)
  ∧ ((∀ i : Int, i < M 185 p → M2 187 i = M 187 i) ∧ ∀ i : Int, M 185 p ≤ i → i + n < M 168 26 → M2 187 i % 256 = M 187 (i + n) % 256)
  ∧ M2 177 = ur (M 177) x (M 177 x - 1)
  ∧ ∀ c : Nat, c ≠ 168 → c ≠ 177 → (c < 183 ∨ 187 < c) → M2 c = M c
section MDROP3
variable {d nx zl : Nat} {K : Option TV → FH → Prop} {sh : Nat → Option Shp} {M : FM} {F n p : Int}
/-- from the loop that looks for the node's own entries -/
theorem md71 (hW : twR M) (hp0 : 0 ≤ p) (hp1 : p < M 168 20) (hn : n = M 186 p)
    (kE : 0 < cnt (M 183) (M 168 20).toNat (M 184 p) → K (some (ti (-5))) (sh, M, nx, zl))
    (kO : cnt (M 183) (M 168 20).toNat (M 184 p) = 0 → ∀ M2 : FM, mdF M M2 p (M 184 p) n → (M 177 (M 184 p) ≠ 1 → K (some (ti (M 184 p))) (sh, M2, nx, zl)) ∧ (M 177 (M 184 p) = 1 → fm_Y (d + 1) 257 [.ref 168, .int (Int32.ofInt (M 184 p))] (sh, M2, nx, zl) (fun w H2 => w = none ∧ K (some (ti (M 184 p))) H2))) : ∀ (G : Nat) (i : Int), (M 168 20 - i).toNat < G → 0 ≤ i → i ≤ M 168 20 → (∀ j : Nat, (j : Int) < i → M 183 j ≠ M 184 p) → fm_X (d + 1) kd255 71 [some (fx 168), some (ti F), some (ti n), some (ti p), some (ti (M 184 p)), some (ti i), none] [] (sh, M, nx, zl) K := by
  have hE := hW.2.2.2.1.1
  have hNr := hW.1.1
  have hEn := hW.2.2.2.1.2
  have hq := hEn p hp0 hp1
  have hx := hq.2.1
  have hs := hq.2.2.1
  have hcr := twC_r hW (M 184 p) (by omega) hx.2
  intro G
  induction G with
  | zero => intro i h1; omega
  | succ G ih =>
    intro i h1 h2 h3 h4
    refine s255_71 (d + 1) K _ _ _ ?_
    refine ⟨by omega, fun w => ?_, fun w => ?_⟩
    · have ei : i = M 168 20 := by omega
      have hc0 : cnt (M 183) (M 168 20).toNat (M 184 p) = 0 := by
        have q1 := (cnt_nn (M 183) (M 184 p) (M 168 20).toNat).1
        by_cases q2 : 0 < cnt (M 183) (M 168 20).toNat (M 184 p)
        · obtain ⟨j, j1, j2⟩ := cnt_ex (M 183) (M 184 p) _ q2
          exact absurd j2 (h4 j (by omega))
        · omega
      have k0 := kO hc0
      refine ⟨by omega, ?_⟩
      refine mclose_Y (a := 187) (na := 32768) rfl (by decide) (by decide) (by omega) (by omega) (by omega) (by omega) (by omega) (by omega) (fun M1 c1 c2 c3 => ?_)
      have u168 := c1 168 (by decide)
      obtain ⟨MZ, hZ⟩ : ∃ MZ : FM, MZ = um (um M1 168 (ur (M1 168) 26 (M1 168 26 - n))) 168 (ur (um M1 168 (ur (M1 168) 26 (M1 168 26 - n)) 168) 20 (um M1 168 (ur (M1 168) 26 (M1 168 26 - n)) 168 20 - 1)) := ⟨_, rfl⟩
      have Z168 : MZ 168 = ur (ur (M 168) 26 (M 168 26 - n)) 20 (M 168 20 - 1) := by
        rw [hZ, um_at, um_at, u168]
        rfl
      have Z20 : MZ 168 20 = M 168 20 - 1 := by rw [Z168, ur_at]
      have ZO : ∀ c : Nat, c ≠ 168 → MZ c = M1 c := fun c hc => by rw [hZ, um_ne hc, um_ne hc]
      have ZM : ∀ c : Nat, c ≠ 168 → c ≠ 187 → MZ c = M c := fun c q1 q2 => (ZO c q1).trans (c1 c q2)
      have Z183 := ZM 183 (by decide) (by decide)
      have Z184 := ZM 184 (by decide) (by decide)
      have Z185 := ZM 185 (by decide) (by decide)
      have Z186 := ZM 186 (by decide) (by decide)
      have Z177 := ZM 177 (by decide) (by decide)
      have TL : fm_X (d + 1) kd255 146 [some (fx 168), some (ti F), some (ti n), some (ti p), some (ti (M 184 p)), some (ti (M 185 p)), some (ti p)] [] (sh, MZ, nx, zl) K := by
        refine md146 (M := MZ) (by omega) hp0 (fun M2 a1 a2 => ?_) ((MZ 168 20 - p).toNat + 1) p MZ (by omega) (by omega) (by omega) (fun j hj => ⟨(del_lo hj).symm, (del_lo hj).symm, (del_lo hj).symm, (del_lo hj).symm⟩) (fun j _ => ⟨rfl, rfl, rfl, rfl⟩) (fun c _ => rfl)
        have y168 := a2 168 (by omega)
        have y177 := a2 177 (by omega)
        have y20 : M2 168 20 = M 168 20 - 1 := by rw [y168, Z20]
        have y77 : M2 177 (M 184 p) = M 177 (M 184 p) := by rw [y177, Z177]
        have hv : ∀ i : Int, 0 ≤ i → i < M2 168 20 → -2147483648 ≤ M2 185 i ∧ M2 185 i ≤ 2147483647 := by
          intro j j0 j1
          rw [(a1 j (by omega)).2.2.1, Z185]
          by_cases e : j < p
          · rw [del_lo e]
            have := (hEn j j0 (by omega)).2.2.1
            omega
          · rw [del_hi (by omega)]
            have := (hEn (j + 1) (by omega) (by omega)).2.2.1
            omega
        refine md228 (M := M2) (by omega) (by omega) (by omega) (by omega) hv (fun M3 b1 b2 b3 => ?_) ((M2 168 20).toNat + 1) 0 M2 (by omega) (by omega) (by omega) (fun j j0 j1 => by omega) (fun j _ => rfl) (fun c _ => rfl)
        have hF : mdF M M3 p (M 184 p) n := by
          refine ⟨fun j j0 j1 => ?_, ?_, ⟨fun j hj => ?_, fun j j0 j1 => ?_⟩, ?_, fun c q1 q2 q3 => ?_⟩
          · obtain ⟨g1, g2, g3, g4⟩ := a1 j (by omega)
            rw [b3 183 (by decide) (by decide), b3 184 (by decide) (by decide), b3 186 (by decide) (by decide), b1 j j0 (by omega), g1, g2, g3, g4, Z183, Z184, Z185, Z186]
            exact ⟨rfl, rfl, rfl, rfl⟩
          · rw [b3 168 (by decide) (by decide), y168, Z168]
          · rw [b3 187 (by decide) (by decide), a2 187 (by omega), ZO 187 (by decide)]
            exact c2 j hj
          · rw [b3 187 (by decide) (by decide), a2 187 (by omega), ZO 187 (by decide)]
            exact c3 j j0 j1
          · rw [b2, y177, Z177]
          · rw [b3 c (by omega) q2, a2 c (by omega)]
            exact ZM c q1 (by omega)
        rw [y77]
        exact k0 M3 hF
      rw [hZ] at TL
      exact TL
    · have hi := (hEn i h2 (by omega)).1
      refine ⟨by omega, ?_⟩
      refine ⟨by omega, fun w2 => ?_, fun w2 => ?_⟩
      · refine ih (i + 1) (by omega) (by omega) (by omega) (fun j hj => ?_)
        by_cases e : (j : Int) = i
        · rw [e]
          exact w2
        · exact h4 j (by omega)
      · refine kE (cnt_pos (M 183) (M 184 p) (M 168 20).toNat i.toNat (by omega) ?_)
        rw [show ((i.toNat : Nat) : Int) = i by omega]
        exact w2
end MDROP3
