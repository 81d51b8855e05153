/-! QUERIES: read; the reference -/
theorem s8M_x {M M2 : FM} {IR IS LR LS : List Int} {B ids F n : Int} {pl h f fg : Int → Int} {s A : Int} (h8 : s8M M IR IS LR LS B ids F n pl h f fg s A) (e : ∀ c : Nat, 211 ≤ c ∧ c ≤ 263 → M2 c = M c) (e2 : ∀ i : Int, 92 ≤ i ∧ i ≤ 98 → M2 168 i = M 168 i) : s8M M2 IR IS LR LS B ids F n pl h f fg s A := by
  obtain ⟨a1, a2, a3, a4⟩ := h8
  refine ⟨mlC_x a1 (fun c hc => e c (by omega)) (fun i hi => e2 i (by omega)), ?_, ?_, ?_⟩
  · rw [e2 98 (by omega)]
    exact a2
  · rw [e 211 (by omega)]
    exact a3
  · rw [e 249 (by omega)]
    exact a4
def mrF (M M2 : FM) : Prop := (∀ c : Nat, c ≠ 168 → (c < 195 ∨ 210 < c) → c ≠ 170 → c ≠ 264 → M2 c = M c) ∧ ∀ i : Int, (i < 50 ∨ 57 < i) → i ≠ 4 → (i < 124 ∨ 129 < i) → M2 168 i = M 168 i
theorem mr_trans {M M2 M3 : FM} (h : mrF M M2) (h2 : mrF M2 M3) : mrF M M3 := ⟨fun c a b e g => (h2.1 c a b e g).trans (h.1 c a b e g), fun i a b e => (h2.2 i a b e).trans (h.2 i a b e)⟩
theorem mr_rb {M M2 : FM} (h : rbF M M2) : mrF M M2 := ⟨fun c a b _ e => h.1 c a b e, fun i a _ _ => h.2 i a⟩
theorem mr_of {M M2 : FM} (h : oF8 M M2) : mrF M M2 := ⟨fun c a _ _ _ => h.1 c a, fun i _ _ b => h.2 i b⟩
theorem mr_out {M M2 : FM} (h : ∀ c : Nat, c ≠ 170 → M2 c = M c) : mrF M M2 := ⟨fun c _ _ a _ => h c a, fun i _ _ _ => by rw [h 168 (by omega)]⟩
theorem mr_s8 {M M2 : FM} {IR IS LR LS : List Int} {B ids F n : Int} {pl h f fg : Int → Int} {s A : Int} (h8 : s8M M IR IS LR LS B ids F n pl h f fg s A) (e : mrF M M2) : s8M M2 IR IS LR LS B ids F n pl h f fg s A := s8M_x h8 (fun c hc => e.1 c (by omega) (by omega) (by omega) (by omega)) (fun i hi => e.2 i (by omega) (by omega) (by omega))
section SHOW
variable {d nx zl : Nat} {K : Option TV → FH → Prop} {sh : Nat → Option Shp} {M : FM}
theorem show_Y {fi off cn zr fr to : Int} (hfi : 0 ≤ fi ∧ fi ≤ 1099511627776) (hof : 0 ≤ off ∧ 0 ≤ cn ∧ off + cn ≤ 65536) (hzr : zr = 0 ∨ zr = 1) (hft : 0 ≤ fr ∧ fr ≤ to ∧ to ≤ fr + 16384 ∧ to ≤ 9223372036854775807)
    (k : ∀ M2 : FM, (∀ c : Nat, c ≠ 170 → M2 c = M c) → (∀ x : Int, fr ≤ x → x < to → fi ≤ x → x < fi + cn → M2 170 (x - fr) % 256 = (if zr = 0 then M 264 (off + (x - fi)) else 0) % 256) → (∀ x : Int, fr ≤ x → x < to → ¬ (fi ≤ x ∧ x < fi + cn) → M2 170 (x - fr) = M 170 (x - fr)) → K none (sh, M2, nx, zl)) : fm_Y (d + 1) 395 [.ref 168, .long (Int64.ofInt fi), .int (Int32.ofInt off), .int (Int32.ofInt cn), .int (Int32.ofInt zr), .long (Int64.ofInt fr), .long (Int64.ofInt to)] (sh, M, nx, zl) K := by
  refine m395 [fx 168, tj fi, ti off, ti cn, ti zr, tj fr, tj to] ?_
  have L : ∀ (G : Nat) (i : Int) (M1 : FM), (cn - i).toNat < G → 0 ≤ i → i ≤ cn → (∀ c : Nat, c ≠ 170 → M1 c = M c) → (∀ x : Int, fr ≤ x → x < to → fi ≤ x → x < fi + i → M1 170 (x - fr) % 256 = (if zr = 0 then M 264 (off + (x - fi)) else 0) % 256) → (∀ x : Int, fr ≤ x → x < to → ¬ (fi ≤ x ∧ x < fi + i) → M1 170 (x - fr) = M 170 (x - fr)) → fm_X d kd395 3 [some (fx 168), some (tj fi), none, some (ti off), some (ti cn), some (ti zr), some (tj fr), none, some (tj to), none, some (ti i)] [] (sh, M1, nx, zl) K := by
    intro G
    induction G with
    | zero => intro i M1 q; omega
    | succ G ih =>
      intro i M1 q1 q2 q3 F1 b1 u1
      refine s395_3 d K _ _ _ ?_
      refine ⟨by omega, fun w => ?_, fun w => ?_⟩
      · have ei : i = cn := by omega
        rw [ei] at b1 u1
        exact k M1 F1 b1 u1
      have SK : ¬ (fr ≤ fi + i ∧ fi + i < to) → fm_X d kd395 3 [some (fx 168), some (tj fi), none, some (ti off), some (ti cn), some (ti zr), some (tj fr), none, some (tj to), none, some (ti (i + 1))] [] (sh, M1, nx, zl) K := by
        intro no
        refine ih (i + 1) M1 (by omega) (by omega) (by omega) F1 (fun x x0 x1 x2 x3 => b1 x x0 x1 x2 (by omega)) (fun x x0 x1 x2 => u1 x x0 x1 (by omega))
      refine ⟨by omega, ?_⟩
      refine ⟨by omega, fun w1 => SK (by omega), fun w1 => ?_⟩
      refine ⟨by omega, ?_⟩
      refine ⟨by omega, fun w2 => SK (by omega), fun w2 => ?_⟩
      refine ⟨by omega, ?_⟩
      have ST : ∀ v : Int, v % 256 = (if zr = 0 then M 264 (off + (fi + i - fi)) else 0) % 256 → b395_63 d (fW d kd395 K) K [some (fx 168), some (tj fi), none, some (ti off), some (ti cn), some (ti zr), some (tj fr), none, some (tj to), none, some (ti i)] [ti v, ti (fi + i - fr), fx 170] (sh, M1, nx, zl) := by
        intro v hv
        refine ⟨by omega, ?_⟩
        obtain ⟨P, gP⟩ : ∃ P : FM, P = pq M1 170 (fi + i - fr) v := ⟨_, rfl⟩
        have TL : fm_X d kd395 3 [some (fx 168), some (tj fi), none, some (ti off), some (ti cn), some (ti zr), some (tj fr), none, some (tj to), none, some (ti (i + 1))] [] (sh, P, nx, zl) K := by
          refine ih (i + 1) P (by omega) (by omega) (by omega) (fun c hc => by rw [gP, pq_o _ _ _ hc]; exact F1 c hc) (fun x x0 x1 x2 x3 => ?_) (fun x x0 x1 x2 => ?_)
          · by_cases c : x = fi + i
            · rw [c, gP, pq_at]
              exact hv
            · rw [gP, pq_ne _ _ _ _ (by omega)]
              exact b1 x x0 x1 x2 (by omega)
          · rw [gP, pq_ne _ _ _ _ (by omega)]
            exact u1 x x0 x1 (by omega)
        rw [gP] at TL
        exact TL
      rcases hzr with z | z
      · rw [z] at ST ⊢
        rw [if_pos rfl] at ST
        refine ⟨by omega, fun _ => ?_, fun q => absurd rfl q⟩
        refine ⟨by omega, ?_⟩
        refine ST _ ?_
        rw [F1 264 (by omega), show off + (fi + i - fi) = off + i by omega]
        omega
      · rw [z] at ST ⊢
        rw [if_neg (by omega)] at ST
        refine ⟨by omega, fun q => by omega, fun _ => ?_⟩
        exact ST 0 rfl
  exact L _ 0 M (Nat.lt_succ_self _) (by omega) (by omega) (fun _ _ => rfl) (fun x x0 x1 x2 x3 => by omega) (fun _ _ _ _ => rfl)
end SHOW
