/-! UNPACKING: no more bytes than there is room -/
section LEN
variable {f : Int → Int} {E W mo : Int} {G : Nat}
theorem smG_len {la : Int → Int} {na : Nat} {lb : Int → Int} {nb : Nat} {p2 : Int} {o2 : List Int} : ∀ (g : Nat) (p : Int) (o : List Int), (o.length : Int) ≤ mo → smG f E la na lb nb W mo g p o = some (p2, o2) → (o2.length : Int) ≤ mo
  | 0, p, o, _, h => by cases h
  | g + 1, p, o, hl, h => by
    cases hs : sy f E la na p with
    | none =>
      have h2 : (match sy f E la na p with
        | none => none
        | some (s, p1) => _) = some (p2, o2) := h
      rw [hs] at h2
      cases h2
    | some q =>
      obtain ⟨s, p1⟩ := q
      have ec : smG f E la na lb nb W mo (g + 1) p o = if s = 256 then some (p1, o) else if s < 256 then (if (o.length : Int) < mo then smG f E la na lb nb W mo g p1 (o ++ [s]) else none) else match smL f E lb nb W mo s p1 o with
          | none => none
          | some (p4, o4) => smG f E la na lb nb W mo g p4 o4 := by
        show (match sy f E la na p with
          | none => none
          | some (s, p1) => _) = _
        rw [hs]
        rfl
      rw [ec] at h
      by_cases c1 : s = 256
      · rw [if_pos c1] at h
        injection h with h
        injection h with h1 h2
        rw [← h2]
        exact hl
      · rw [if_neg c1] at h
        by_cases c2 : s < 256
        · rw [if_pos c2] at h
          by_cases c3 : (o.length : Int) < mo
          · rw [if_pos c3] at h
            exact smG_len g p1 _ (by simp only [List.length_append, List.length_cons, List.length_nil]; omega) h
          · rw [if_neg c3] at h
            cases h
        · rw [if_neg c2] at h
          cases h7 : smL f E lb nb W mo s p1 o with
          | none =>
            rw [h7] at h
            cases h
          | some r5 =>
            obtain ⟨p4, o4⟩ := r5
            rw [h7] at h
            have ad := smL_adv (by omega) h7
            have h' : smG f E la na lb nb W mo g p4 o4 = some (p2, o2) := h
            exact smG_len g p4 o4 ad.2.2.2 h'
theorem bkS_len {p p2 : Int} {o o2 : List Int} (hl : (o.length : Int) ≤ mo) (h : bkS f E W mo G p o = some (p2, o2)) : (o2.length : Int) ≤ mo := by
  unfold bkS at h
  by_cases c1 : bv f p 2 = 0
  · rw [if_pos c1] at h
    unfold stS at h
    split at h
    · rename_i hc
      injection h with h
      injection h with h1 h2
      have b := (bv_rng f ((p + 2 + 7) / 8 * 8) 16).1
      rw [← h2, List.length_append, sl_len]
      omega
    · cases h
  · rw [if_neg c1] at h
    by_cases c2 : bv f p 2 = 1
    · rw [if_pos c2] at h
      exact smG_len G _ _ hl h
    · rw [if_neg c2] at h
      by_cases c3 : bv f p 2 = 2
      · rw [if_pos c3] at h
        unfold dyS at h
        by_cases c4 : teK f E (p + 2)
        · rw [cif_pos c4] at h
          cases ht : tlG f E (tlS f (p + 2 + 14) (teC f (p + 2))) (teH f (p + 2) + teD f (p + 2)) G (p + 2 + 14 + 3 * teC f (p + 2)) 0 (fun _ => 0) with
          | none =>
            rw [ht] at h
            cases h
          | some q =>
            obtain ⟨p3, r⟩ := q
            rw [ht] at h
            dsimp only at h
            by_cases c5 : 0 < r 256 ∧ okL r (teH f (p + 2)).toNat 0 ∧ okL (fun s => r (teH f (p + 2) + s)) (teD f (p + 2)).toNat 1
            · rw [cif_pos c5] at h
              exact smG_len G _ _ hl h
            · rw [cif_neg c5] at h
              cases h
        · rw [cif_neg c4] at h
          cases h
      · rw [if_neg c3] at h
        cases h
theorem blG_len {p2 : Int} {o2 : List Int} : ∀ (k : Nat) (p : Int) (o : List Int), (o.length : Int) ≤ mo → blG f E W mo G k p o = some (p2, o2) → (o2.length : Int) ≤ mo
  | 0, _, _, _, h => by cases h
  | k + 1, p, o, hl, h => by
    have h1 : (if p + 3 ≤ E then (match bkS f E W mo G (p + 1) o with
      | none => none
      | some (p2, o2) => if bv f p 1 = 1 then some (p2, o2) else blG f E W mo G k p2 o2) else none) = some (p2, o2) := h
    by_cases c : p + 3 ≤ E
    · rw [if_pos c] at h1
      cases hb : bkS f E W mo G (p + 1) o with
      | none =>
        rw [hb] at h1
        cases h1
      | some q =>
        obtain ⟨p3, o3⟩ := q
        have bl := bkS_len hl hb
        rw [hb] at h1
        have h3 : (if bv f p 1 = 1 then some (p3, o3) else blG f E W mo G k p3 o3) = some (p2, o2) := h1
        by_cases c2 : bv f p 1 = 1
        · rw [if_pos c2] at h3
          injection h3 with h3
          injection h3 with h4 h5
          rw [← h5]
          exact bl
        · rw [if_neg c2] at h3
          exact blG_len k p3 o3 bl h3
    · rw [if_neg c] at h1
      cases h1
theorem unS_len {a n : Int} {o : List Int} (h : unS f a n mo = some o) : (o.length : Int) ≤ mo ∨ mo < 0 := by
  by_cases c : mo < 0
  · exact Or.inr c
  · refine Or.inl ?_
    unfold unS at h
    split at h
    · cases hb : blG f (8 * (a + n)) (256 * 2 ^ (f a % 256 / 16).toNat) mo ((8 * (a + n)).toNat + 1) ((8 * (a + n)).toNat + 1) (8 * (a + 2)) [] with
      | none =>
        rw [hb] at h
        cases h
      | some q =>
        obtain ⟨p, o2⟩ := q
        have bl := blG_len _ _ _ (show (([] : List Int).length : Int) ≤ mo by show ((0 : Nat) : Int) ≤ mo; omega) hb
        rw [hb] at h
        dsimp only at h
        split at h
        · injection h with h
          rw [← h]
          exact bl
        · cases h
    · cases h
end LEN
