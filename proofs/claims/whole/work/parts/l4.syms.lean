/-! PACKING: the symbols of lengths and distances; printed by wip/gen/syms.py -/
def lnY (n : Int) : Int := if n = 258 then 285 else if n < 11 then n + 254 else if n < 19 then 261 + (n - 3) / 2 else if n < 35 then 265 + (n - 3) / 4 else if n < 67 then 269 + (n - 3) / 8 else if n < 131 then 273 + (n - 3) / 16 else 277 + (n - 3) / 32
def eLn (n : Int) : Int := if n = 258 then 0 else if n < 11 then 0 else if n < 19 then 1 else if n < 35 then 2 else if n < 67 then 3 else if n < 131 then 4 else 5
def dsY (x : Int) : Int := if x < 5 then x - 1 else if x < 9 then 2 + (x - 1) / 2 else if x < 17 then 4 + (x - 1) / 4 else if x < 33 then 6 + (x - 1) / 8 else if x < 65 then 8 + (x - 1) / 16 else if x < 129 then 10 + (x - 1) / 32 else if x < 257 then 12 + (x - 1) / 64 else if x < 513 then 14 + (x - 1) / 128 else if x < 1025 then 16 + (x - 1) / 256 else if x < 2049 then 18 + (x - 1) / 512 else if x < 4097 then 20 + (x - 1) / 1024 else if x < 8193 then 22 + (x - 1) / 2048 else if x < 16385 then 24 + (x - 1) / 4096 else 26 + (x - 1) / 8192
def eDs (x : Int) : Int := if x < 5 then 0 else if x < 9 then 1 else if x < 17 then 2 else if x < 33 then 3 else if x < 65 then 4 else if x < 129 then 5 else if x < 257 then 6 else if x < 513 then 7 else if x < 1025 then 8 else if x < 2049 then 9 else if x < 4097 then 10 else if x < 8193 then 11 else if x < 16385 then 12 else 13
section SYMS
variable {d : Nat} {K : Option TV → FH → Prop} {H : FH}
theorem bitsLen_Y {n : Int} (hn : 3 ≤ n ∧ n ≤ 258) (k : K (some (ti (eLn n))) H) : fm_Y (d + 1) 78 [.int (Int32.ofInt n)] H K := by
  refine m78 [ti n] ?_
  have S5 : 131 ≤ n → n ≠ 258 → fm_X d kd78 4 [some (ti n), some (ti 5), some (ti 5)] [] H K := by
    intro h1 h2
    have e : eLn n = 5 := by
      unfold eLn
      rw [if_neg h2, if_neg (by omega), if_neg (by omega), if_neg (by omega), if_neg (by omega), if_neg (by omega)]
    rw [e] at k
    refine s78_4 d K _ _ _ ?_
    exact ⟨by omega, fun _ => k, fun q => by omega⟩
  have S4 : 67 ≤ n → n ≠ 258 → fm_X d kd78 4 [some (ti n), some (ti 4), some (ti 4)] [] H K := by
    intro h1 h2
    refine s78_4 d K _ _ _ ?_
    refine ⟨by omega, fun q => by omega, fun _ => ?_⟩
    refine ⟨by omega, fun q => ?_, fun q => ?_⟩
    · omega
    · refine ⟨by omega, ?_⟩
      have ep : (2 : Int) ^ ((4 : Int) + 3).toNat = 128 := rfl
      rw [ep]
      refine ⟨by omega, fun u => ?_, fun u => ?_⟩
      · have e : eLn n = 4 := by
          unfold eLn
          rw [if_neg (by omega), if_neg (by omega), if_neg (by omega), if_neg (by omega), if_neg (by omega), if_pos (by omega)]
        rw [e] at k
        exact k
      · exact S5 (by omega) (by omega)
  have S3 : 35 ≤ n → n ≠ 258 → fm_X d kd78 4 [some (ti n), some (ti 3), some (ti 3)] [] H K := by
    intro h1 h2
    refine s78_4 d K _ _ _ ?_
    refine ⟨by omega, fun q => by omega, fun _ => ?_⟩
    refine ⟨by omega, fun q => ?_, fun q => ?_⟩
    · omega
    · refine ⟨by omega, ?_⟩
      have ep : (2 : Int) ^ ((3 : Int) + 3).toNat = 64 := rfl
      rw [ep]
      refine ⟨by omega, fun u => ?_, fun u => ?_⟩
      · have e : eLn n = 3 := by
          unfold eLn
          rw [if_neg (by omega), if_neg (by omega), if_neg (by omega), if_neg (by omega), if_pos (by omega)]
        rw [e] at k
        exact k
      · exact S4 (by omega) (by omega)
  have S2 : 19 ≤ n → n ≠ 258 → fm_X d kd78 4 [some (ti n), some (ti 2), some (ti 2)] [] H K := by
    intro h1 h2
    refine s78_4 d K _ _ _ ?_
    refine ⟨by omega, fun q => by omega, fun _ => ?_⟩
    refine ⟨by omega, fun q => ?_, fun q => ?_⟩
    · omega
    · refine ⟨by omega, ?_⟩
      have ep : (2 : Int) ^ ((2 : Int) + 3).toNat = 32 := rfl
      rw [ep]
      refine ⟨by omega, fun u => ?_, fun u => ?_⟩
      · have e : eLn n = 2 := by
          unfold eLn
          rw [if_neg (by omega), if_neg (by omega), if_neg (by omega), if_pos (by omega)]
        rw [e] at k
        exact k
      · exact S3 (by omega) (by omega)
  have S1 : 11 ≤ n → n ≠ 258 → fm_X d kd78 4 [some (ti n), some (ti 1), some (ti 1)] [] H K := by
    intro h1 h2
    refine s78_4 d K _ _ _ ?_
    refine ⟨by omega, fun q => by omega, fun _ => ?_⟩
    refine ⟨by omega, fun q => ?_, fun q => ?_⟩
    · omega
    · refine ⟨by omega, ?_⟩
      have ep : (2 : Int) ^ ((1 : Int) + 3).toNat = 16 := rfl
      rw [ep]
      refine ⟨by omega, fun u => ?_, fun u => ?_⟩
      · have e : eLn n = 1 := by
          unfold eLn
          rw [if_neg (by omega), if_neg (by omega), if_pos (by omega)]
        rw [e] at k
        exact k
      · exact S2 (by omega) (by omega)
  have S0 : 3 ≤ n → fm_X d kd78 4 [some (ti n), some (ti 0), some (ti 0)] [] H K := by
    intro h1
    refine s78_4 d K _ _ _ ?_
    refine ⟨by omega, fun q => by omega, fun _ => ?_⟩
    refine ⟨by omega, fun q => ?_, fun q => ?_⟩
    · have e : eLn n = 0 := by
        unfold eLn
        rw [if_pos (by omega)]
      rw [e] at k
      exact k
    · refine ⟨by omega, ?_⟩
      have ep : (2 : Int) ^ ((0 : Int) + 3).toNat = 8 := rfl
      rw [ep]
      refine ⟨by omega, fun u => ?_, fun u => ?_⟩
      · have e : eLn n = 0 := by
          unfold eLn
          rw [if_neg (by omega), if_pos (by omega)]
        rw [e] at k
        exact k
      · exact S1 (by omega) (by omega)
  exact S0 (by omega)
theorem lenSym_Y {n : Int} (hn : 3 ≤ n ∧ n ≤ 258) (k : K (some (ti (lnY n))) H) : fm_Y (d + 2) 77 [.int (Int32.ofInt n)] H K := by
  refine m77 [ti n] ?_
  refine ⟨by omega, fun h => ?_, fun h => ?_⟩
  · refine bitsLen_Y hn ?_
    refine ⟨by omega, fun h2 => ?_, fun h2 => ?_⟩
    · have C : ∀ (j : Int) (p : Int), 0 ≤ j → j ≤ 5 → eLn n = j → (2 : Int) ^ j.toNat = p → lnY n = 257 + 4 * j + (n - 3) / p → K (some (ti (257 + 4 * eLn n + (n - 3) / 2 ^ (eLn n).toNat))) H := by
        intro j p j0 j1 e1 e2 e3
        rw [e1, e2, ← e3]
        exact k
      have er : 0 ≤ eLn n ∧ eLn n ≤ 5 := by
        unfold eLn
        repeat' split
        all_goals omega
      refine ⟨by omega, ?_⟩
      by_cases c1 : n < 19
      · refine C 1 2 (by omega) (by omega) ?_ rfl ?_
        · unfold eLn
          rw [if_neg (by omega), if_neg (by omega), if_pos (by omega)]
        · unfold lnY
          rw [if_neg (by omega), if_neg (by omega), if_pos (by omega)]
          omega
      by_cases c2 : n < 35
      · refine C 2 4 (by omega) (by omega) ?_ rfl ?_
        · unfold eLn
          rw [if_neg (by omega), if_neg (by omega), if_neg (by omega), if_pos (by omega)]
        · unfold lnY
          rw [if_neg (by omega), if_neg (by omega), if_neg (by omega), if_pos (by omega)]
          omega
      by_cases c3 : n < 67
      · refine C 3 8 (by omega) (by omega) ?_ rfl ?_
        · unfold eLn
          rw [if_neg (by omega), if_neg (by omega), if_neg (by omega), if_neg (by omega), if_pos (by omega)]
        · unfold lnY
          rw [if_neg (by omega), if_neg (by omega), if_neg (by omega), if_neg (by omega), if_pos (by omega)]
          omega
      by_cases c4 : n < 131
      · refine C 4 16 (by omega) (by omega) ?_ rfl ?_
        · unfold eLn
          rw [if_neg (by omega), if_neg (by omega), if_neg (by omega), if_neg (by omega), if_neg (by omega), if_pos (by omega)]
        · unfold lnY
          rw [if_neg (by omega), if_neg (by omega), if_neg (by omega), if_neg (by omega), if_neg (by omega), if_pos (by omega)]
          omega
      refine C 5 32 (by omega) (by omega) ?_ rfl ?_
      · unfold eLn
        rw [if_neg (by omega), if_neg (by omega), if_neg (by omega), if_neg (by omega), if_neg (by omega), if_neg (by omega)]
      · unfold lnY
        rw [if_neg (by omega), if_neg (by omega), if_neg (by omega), if_neg (by omega), if_neg (by omega), if_neg (by omega)]
        omega
    · have e : lnY n = n + 254 := by
        unfold lnY
        rw [if_neg h, if_pos (by omega)]
      rw [e] at k
      exact k
  · have e : lnY n = 285 := by
      unfold lnY
      rw [if_pos (by omega)]
    rw [e] at k
    exact k
theorem bitsDis_Y {x : Int} (hx : 1 ≤ x ∧ x ≤ 32768) (k : K (some (ti (eDs x))) H) : fm_Y (d + 1) 80 [.int (Int32.ofInt x)] H K := by
  refine m80 [ti x] ?_
  have S13 : 16385 ≤ x → fm_X d kd80 4 [some (ti x), some (ti 13), some (ti 13)] [] H K := by
    intro h1
    have e : eDs x = 13 := by
      unfold eDs
      rw [if_neg (by omega), if_neg (by omega), if_neg (by omega), if_neg (by omega), if_neg (by omega), if_neg (by omega), if_neg (by omega), if_neg (by omega), if_neg (by omega), if_neg (by omega), if_neg (by omega), if_neg (by omega), if_neg (by omega)]
    rw [e] at k
    refine s80_4 d K _ _ _ ?_
    exact ⟨by omega, fun _ => k, fun q => by omega⟩
  have S12 : 8193 ≤ x → fm_X d kd80 4 [some (ti x), some (ti 12), some (ti 12)] [] H K := by
    intro h1
    refine s80_4 d K _ _ _ ?_
    refine ⟨by omega, fun q => by omega, fun _ => ?_⟩
    refine ⟨by omega, ?_⟩
    have ep : (2 : Int) ^ ((12 : Int) + 2).toNat = 16384 := rfl
    rw [ep]
    refine ⟨by omega, fun u => ?_, fun u => ?_⟩
    · have e : eDs x = 12 := by
        unfold eDs
        rw [if_neg (by omega), if_neg (by omega), if_neg (by omega), if_neg (by omega), if_neg (by omega), if_neg (by omega), if_neg (by omega), if_neg (by omega), if_neg (by omega), if_neg (by omega), if_neg (by omega), if_neg (by omega), if_pos (by omega)]
      rw [e] at k
      exact k
    · exact S13 (by omega)
  have S11 : 4097 ≤ x → fm_X d kd80 4 [some (ti x), some (ti 11), some (ti 11)] [] H K := by
    intro h1
    refine s80_4 d K _ _ _ ?_
    refine ⟨by omega, fun q => by omega, fun _ => ?_⟩
    refine ⟨by omega, ?_⟩
    have ep : (2 : Int) ^ ((11 : Int) + 2).toNat = 8192 := rfl
    rw [ep]
    refine ⟨by omega, fun u => ?_, fun u => ?_⟩
    · have e : eDs x = 11 := by
        unfold eDs
        rw [if_neg (by omega), if_neg (by omega), if_neg (by omega), if_neg (by omega), if_neg (by omega), if_neg (by omega), if_neg (by omega), if_neg (by omega), if_neg (by omega), if_neg (by omega), if_neg (by omega), if_pos (by omega)]
      rw [e] at k
      exact k
    · exact S12 (by omega)
  have S10 : 2049 ≤ x → fm_X d kd80 4 [some (ti x), some (ti 10), some (ti 10)] [] H K := by
    intro h1
    refine s80_4 d K _ _ _ ?_
    refine ⟨by omega, fun q => by omega, fun _ => ?_⟩
    refine ⟨by omega, ?_⟩
    have ep : (2 : Int) ^ ((10 : Int) + 2).toNat = 4096 := rfl
    rw [ep]
    refine ⟨by omega, fun u => ?_, fun u => ?_⟩
    · have e : eDs x = 10 := by
        unfold eDs
        rw [if_neg (by omega), if_neg (by omega), if_neg (by omega), if_neg (by omega), if_neg (by omega), if_neg (by omega), if_neg (by omega), if_neg (by omega), if_neg (by omega), if_neg (by omega), if_pos (by omega)]
      rw [e] at k
      exact k
    · exact S11 (by omega)
  have S9 : 1025 ≤ x → fm_X d kd80 4 [some (ti x), some (ti 9), some (ti 9)] [] H K := by
    intro h1
    refine s80_4 d K _ _ _ ?_
    refine ⟨by omega, fun q => by omega, fun _ => ?_⟩
    refine ⟨by omega, ?_⟩
    have ep : (2 : Int) ^ ((9 : Int) + 2).toNat = 2048 := rfl
    rw [ep]
    refine ⟨by omega, fun u => ?_, fun u => ?_⟩
    · have e : eDs x = 9 := by
        unfold eDs
        rw [if_neg (by omega), if_neg (by omega), if_neg (by omega), if_neg (by omega), if_neg (by omega), if_neg (by omega), if_neg (by omega), if_neg (by omega), if_neg (by omega), if_pos (by omega)]
      rw [e] at k
      exact k
    · exact S10 (by omega)
  have S8 : 513 ≤ x → fm_X d kd80 4 [some (ti x), some (ti 8), some (ti 8)] [] H K := by
    intro h1
    refine s80_4 d K _ _ _ ?_
    refine ⟨by omega, fun q => by omega, fun _ => ?_⟩
    refine ⟨by omega, ?_⟩
    have ep : (2 : Int) ^ ((8 : Int) + 2).toNat = 1024 := rfl
    rw [ep]
    refine ⟨by omega, fun u => ?_, fun u => ?_⟩
    · have e : eDs x = 8 := by
        unfold eDs
        rw [if_neg (by omega), if_neg (by omega), if_neg (by omega), if_neg (by omega), if_neg (by omega), if_neg (by omega), if_neg (by omega), if_neg (by omega), if_pos (by omega)]
      rw [e] at k
      exact k
    · exact S9 (by omega)
  have S7 : 257 ≤ x → fm_X d kd80 4 [some (ti x), some (ti 7), some (ti 7)] [] H K := by
    intro h1
    refine s80_4 d K _ _ _ ?_
    refine ⟨by omega, fun q => by omega, fun _ => ?_⟩
    refine ⟨by omega, ?_⟩
    have ep : (2 : Int) ^ ((7 : Int) + 2).toNat = 512 := rfl
    rw [ep]
    refine ⟨by omega, fun u => ?_, fun u => ?_⟩
    · have e : eDs x = 7 := by
        unfold eDs
        rw [if_neg (by omega), if_neg (by omega), if_neg (by omega), if_neg (by omega), if_neg (by omega), if_neg (by omega), if_neg (by omega), if_pos (by omega)]
      rw [e] at k
      exact k
    · exact S8 (by omega)
  have S6 : 129 ≤ x → fm_X d kd80 4 [some (ti x), some (ti 6), some (ti 6)] [] H K := by
    intro h1
    refine s80_4 d K _ _ _ ?_
    refine ⟨by omega, fun q => by omega, fun _ => ?_⟩
    refine ⟨by omega, ?_⟩
    have ep : (2 : Int) ^ ((6 : Int) + 2).toNat = 256 := rfl
    rw [ep]
    refine ⟨by omega, fun u => ?_, fun u => ?_⟩
    · have e : eDs x = 6 := by
        unfold eDs
        rw [if_neg (by omega), if_neg (by omega), if_neg (by omega), if_neg (by omega), if_neg (by omega), if_neg (by omega), if_pos (by omega)]
      rw [e] at k
      exact k
    · exact S7 (by omega)
  have S5 : 65 ≤ x → fm_X d kd80 4 [some (ti x), some (ti 5), some (ti 5)] [] H K := by
    intro h1
    refine s80_4 d K _ _ _ ?_
    refine ⟨by omega, fun q => by omega, fun _ => ?_⟩
    refine ⟨by omega, ?_⟩
    have ep : (2 : Int) ^ ((5 : Int) + 2).toNat = 128 := rfl
    rw [ep]
    refine ⟨by omega, fun u => ?_, fun u => ?_⟩
    · have e : eDs x = 5 := by
        unfold eDs
        rw [if_neg (by omega), if_neg (by omega), if_neg (by omega), if_neg (by omega), if_neg (by omega), if_pos (by omega)]
      rw [e] at k
      exact k
    · exact S6 (by omega)
  have S4 : 33 ≤ x → fm_X d kd80 4 [some (ti x), some (ti 4), some (ti 4)] [] H K := by
    intro h1
    refine s80_4 d K _ _ _ ?_
    refine ⟨by omega, fun q => by omega, fun _ => ?_⟩
    refine ⟨by omega, ?_⟩
    have ep : (2 : Int) ^ ((4 : Int) + 2).toNat = 64 := rfl
    rw [ep]
    refine ⟨by omega, fun u => ?_, fun u => ?_⟩
    · have e : eDs x = 4 := by
        unfold eDs
        rw [if_neg (by omega), if_neg (by omega), if_neg (by omega), if_neg (by omega), if_pos (by omega)]
      rw [e] at k
      exact k
    · exact S5 (by omega)
  have S3 : 17 ≤ x → fm_X d kd80 4 [some (ti x), some (ti 3), some (ti 3)] [] H K := by
    intro h1
    refine s80_4 d K _ _ _ ?_
    refine ⟨by omega, fun q => by omega, fun _ => ?_⟩
    refine ⟨by omega, ?_⟩
    have ep : (2 : Int) ^ ((3 : Int) + 2).toNat = 32 := rfl
    rw [ep]
    refine ⟨by omega, fun u => ?_, fun u => ?_⟩
    · have e : eDs x = 3 := by
        unfold eDs
        rw [if_neg (by omega), if_neg (by omega), if_neg (by omega), if_pos (by omega)]
      rw [e] at k
      exact k
    · exact S4 (by omega)
  have S2 : 9 ≤ x → fm_X d kd80 4 [some (ti x), some (ti 2), some (ti 2)] [] H K := by
    intro h1
    refine s80_4 d K _ _ _ ?_
    refine ⟨by omega, fun q => by omega, fun _ => ?_⟩
    refine ⟨by omega, ?_⟩
    have ep : (2 : Int) ^ ((2 : Int) + 2).toNat = 16 := rfl
    rw [ep]
    refine ⟨by omega, fun u => ?_, fun u => ?_⟩
    · have e : eDs x = 2 := by
        unfold eDs
        rw [if_neg (by omega), if_neg (by omega), if_pos (by omega)]
      rw [e] at k
      exact k
    · exact S3 (by omega)
  have S1 : 5 ≤ x → fm_X d kd80 4 [some (ti x), some (ti 1), some (ti 1)] [] H K := by
    intro h1
    refine s80_4 d K _ _ _ ?_
    refine ⟨by omega, fun q => by omega, fun _ => ?_⟩
    refine ⟨by omega, ?_⟩
    have ep : (2 : Int) ^ ((1 : Int) + 2).toNat = 8 := rfl
    rw [ep]
    refine ⟨by omega, fun u => ?_, fun u => ?_⟩
    · have e : eDs x = 1 := by
        unfold eDs
        rw [if_neg (by omega), if_pos (by omega)]
      rw [e] at k
      exact k
    · exact S2 (by omega)
  have S0 : 1 ≤ x → fm_X d kd80 4 [some (ti x), some (ti 0), some (ti 0)] [] H K := by
    intro h1
    refine s80_4 d K _ _ _ ?_
    refine ⟨by omega, fun q => by omega, fun _ => ?_⟩
    refine ⟨by omega, ?_⟩
    have ep : (2 : Int) ^ ((0 : Int) + 2).toNat = 4 := rfl
    rw [ep]
    refine ⟨by omega, fun u => ?_, fun u => ?_⟩
    · have e : eDs x = 0 := by
        unfold eDs
        rw [if_pos (by omega)]
      rw [e] at k
      exact k
    · exact S1 (by omega)
  exact S0 (by omega)
theorem disSym_Y {x : Int} (hx : 1 ≤ x ∧ x ≤ 32768) (k : K (some (ti (dsY x))) H) : fm_Y (d + 2) 79 [.int (Int32.ofInt x)] H K := by
  refine m79 [ti x] ?_
  refine bitsDis_Y hx ?_
  refine ⟨by omega, fun h2 => ?_, fun h2 => ?_⟩
  · have C : ∀ (j : Int) (p : Int), 0 ≤ j → j ≤ 13 → eDs x = j → (2 : Int) ^ j.toNat = p → dsY x = 2 * j + (x - 1) / p → K (some (ti (2 * eDs x + (x - 1) / 2 ^ (eDs x).toNat))) H := by
      intro j p j0 j1 e1 e2 e3
      rw [e1, e2, ← e3]
      exact k
    have er : 0 ≤ eDs x ∧ eDs x ≤ 13 := by
      unfold eDs
      repeat' split
      all_goals omega
    refine ⟨by omega, ?_⟩
    by_cases c1 : x < 9
    · refine C 1 2 (by omega) (by omega) ?_ rfl ?_
      · unfold eDs
        rw [if_neg (by omega), if_pos (by omega)]
      · unfold dsY
        rw [if_neg (by omega), if_pos (by omega)]
        omega
    by_cases c2 : x < 17
    · refine C 2 4 (by omega) (by omega) ?_ rfl ?_
      · unfold eDs
        rw [if_neg (by omega), if_neg (by omega), if_pos (by omega)]
      · unfold dsY
        rw [if_neg (by omega), if_neg (by omega), if_pos (by omega)]
        omega
    by_cases c3 : x < 33
    · refine C 3 8 (by omega) (by omega) ?_ rfl ?_
      · unfold eDs
        rw [if_neg (by omega), if_neg (by omega), if_neg (by omega), if_pos (by omega)]
      · unfold dsY
        rw [if_neg (by omega), if_neg (by omega), if_neg (by omega), if_pos (by omega)]
        omega
    by_cases c4 : x < 65
    · refine C 4 16 (by omega) (by omega) ?_ rfl ?_
      · unfold eDs
        rw [if_neg (by omega), if_neg (by omega), if_neg (by omega), if_neg (by omega), if_pos (by omega)]
      · unfold dsY
        rw [if_neg (by omega), if_neg (by omega), if_neg (by omega), if_neg (by omega), if_pos (by omega)]
        omega
    by_cases c5 : x < 129
    · refine C 5 32 (by omega) (by omega) ?_ rfl ?_
      · unfold eDs
        rw [if_neg (by omega), if_neg (by omega), if_neg (by omega), if_neg (by omega), if_neg (by omega), if_pos (by omega)]
      · unfold dsY
        rw [if_neg (by omega), if_neg (by omega), if_neg (by omega), if_neg (by omega), if_neg (by omega), if_pos (by omega)]
        omega
    by_cases c6 : x < 257
    · refine C 6 64 (by omega) (by omega) ?_ rfl ?_
      · unfold eDs
        rw [if_neg (by omega), if_neg (by omega), if_neg (by omega), if_neg (by omega), if_neg (by omega), if_neg (by omega), if_pos (by omega)]
      · unfold dsY
        rw [if_neg (by omega), if_neg (by omega), if_neg (by omega), if_neg (by omega), if_neg (by omega), if_neg (by omega), if_pos (by omega)]
        omega
    by_cases c7 : x < 513
    · refine C 7 128 (by omega) (by omega) ?_ rfl ?_
      · unfold eDs
        rw [if_neg (by omega), if_neg (by omega), if_neg (by omega), if_neg (by omega), if_neg (by omega), if_neg (by omega), if_neg (by omega), if_pos (by omega)]
      · unfold dsY
        rw [if_neg (by omega), if_neg (by omega), if_neg (by omega), if_neg (by omega), if_neg (by omega), if_neg (by omega), if_neg (by omega), if_pos (by omega)]
        omega
    by_cases c8 : x < 1025
    · refine C 8 256 (by omega) (by omega) ?_ rfl ?_
      · unfold eDs
        rw [if_neg (by omega), if_neg (by omega), if_neg (by omega), if_neg (by omega), if_neg (by omega), if_neg (by omega), if_neg (by omega), if_neg (by omega), if_pos (by omega)]
      · unfold dsY
        rw [if_neg (by omega), if_neg (by omega), if_neg (by omega), if_neg (by omega), if_neg (by omega), if_neg (by omega), if_neg (by omega), if_neg (by omega), if_pos (by omega)]
        omega
    by_cases c9 : x < 2049
    · refine C 9 512 (by omega) (by omega) ?_ rfl ?_
      · unfold eDs
        rw [if_neg (by omega), if_neg (by omega), if_neg (by omega), if_neg (by omega), if_neg (by omega), if_neg (by omega), if_neg (by omega), if_neg (by omega), if_neg (by omega), if_pos (by omega)]
      · unfold dsY
        rw [if_neg (by omega), if_neg (by omega), if_neg (by omega), if_neg (by omega), if_neg (by omega), if_neg (by omega), if_neg (by omega), if_neg (by omega), if_neg (by omega), if_pos (by omega)]
        omega
    by_cases c10 : x < 4097
    · refine C 10 1024 (by omega) (by omega) ?_ rfl ?_
      · unfold eDs
        rw [if_neg (by omega), if_neg (by omega), if_neg (by omega), if_neg (by omega), if_neg (by omega), if_neg (by omega), if_neg (by omega), if_neg (by omega), if_neg (by omega), if_neg (by omega), if_pos (by omega)]
      · unfold dsY
        rw [if_neg (by omega), if_neg (by omega), if_neg (by omega), if_neg (by omega), if_neg (by omega), if_neg (by omega), if_neg (by omega), if_neg (by omega), if_neg (by omega), if_neg (by omega), if_pos (by omega)]
        omega
    by_cases c11 : x < 8193
    · refine C 11 2048 (by omega) (by omega) ?_ rfl ?_
      · unfold eDs
        rw [if_neg (by omega), if_neg (by omega), if_neg (by omega), if_neg (by omega), if_neg (by omega), if_neg (by omega), if_neg (by omega), if_neg (by omega), if_neg (by omega), if_neg (by omega), if_neg (by omega), if_pos (by omega)]
      · unfold dsY
        rw [if_neg (by omega), if_neg (by omega), if_neg (by omega), if_neg (by omega), if_neg (by omega), if_neg (by omega), if_neg (by omega), if_neg (by omega), if_neg (by omega), if_neg (by omega), if_neg (by omega), if_pos (by omega)]
        omega
    by_cases c12 : x < 16385
    · refine C 12 4096 (by omega) (by omega) ?_ rfl ?_
      · unfold eDs
        rw [if_neg (by omega), if_neg (by omega), if_neg (by omega), if_neg (by omega), if_neg (by omega), if_neg (by omega), if_neg (by omega), if_neg (by omega), if_neg (by omega), if_neg (by omega), if_neg (by omega), if_neg (by omega), if_pos (by omega)]
      · unfold dsY
        rw [if_neg (by omega), if_neg (by omega), if_neg (by omega), if_neg (by omega), if_neg (by omega), if_neg (by omega), if_neg (by omega), if_neg (by omega), if_neg (by omega), if_neg (by omega), if_neg (by omega), if_neg (by omega), if_pos (by omega)]
        omega
    refine C 13 8192 (by omega) (by omega) ?_ rfl ?_
    · unfold eDs
      rw [if_neg (by omega), if_neg (by omega), if_neg (by omega), if_neg (by omega), if_neg (by omega), if_neg (by omega), if_neg (by omega), if_neg (by omega), if_neg (by omega), if_neg (by omega), if_neg (by omega), if_neg (by omega), if_neg (by omega)]
    · unfold dsY
      rw [if_neg (by omega), if_neg (by omega), if_neg (by omega), if_neg (by omega), if_neg (by omega), if_neg (by omega), if_neg (by omega), if_neg (by omega), if_neg (by omega), if_neg (by omega), if_neg (by omega), if_neg (by omega), if_neg (by omega)]
      omega
  · have e : dsY x = x - 1 := by
      unfold dsY
      rw [if_pos (by omega)]
    rw [e] at k
    exact k
theorem mlenSym_Y {n : Int} (hn : 3 ≤ n ∧ n ≤ 258) (k : K (some (ti (lnY n))) H) : fm_Y (d + 3) 278 [.int (Int32.ofInt n)] H K := by
  refine m278 [ti n] ?_
  have B27 : ∀ s : Int, (n = 258 ∨ lnY n = s) → b278_27 (d + 2) (fW (d + 2) kd278 K) K [some (ti n), some (ti s)] [] H := by
    intro s hs
    refine ⟨by omega, fun u => ?_, fun u => ?_⟩
    · rw [show lnY n = s by omega] at k
      exact k
    · have e : lnY n = 285 := by
        unfold lnY
        rw [if_pos (by omega)]
      rw [e] at k
      exact k
  have S284 : 227 ≤ n → fm_X (d + 2) kd278 4 [some (ti n), some (ti 284)] [] H K := by
    intro h1
    refine s278_4 (d + 2) K _ _ _ ?_
    refine ⟨by omega, fun _ => B27 284 ?_, fun q => by omega⟩
    by_cases c : n = 258
    · exact Or.inl c
    · refine Or.inr ?_
      unfold lnY
      rw [if_neg (by omega), if_neg (by omega), if_neg (by omega), if_neg (by omega), if_neg (by omega), if_neg (by omega)]
      omega
  have S283 : 195 ≤ n → fm_X (d + 2) kd278 4 [some (ti n), some (ti 283)] [] H K := by
    intro h1
    refine s278_4 (d + 2) K _ _ _ ?_
    refine ⟨by omega, fun q => by omega, fun _ => ?_⟩
    refine mlengthBase_Y (by omega) (by omega) ?_
    have eb : lnB ((283 : Int) + 1) = 227 := rfl
    rw [eb]
    refine ⟨by omega, fun u => B27 283 (Or.inr ?_), fun u => S284 (by omega)⟩
    unfold lnY
    rw [if_neg (by omega), if_neg (by omega), if_neg (by omega), if_neg (by omega), if_neg (by omega), if_neg (by omega)]
    omega
  have S282 : 163 ≤ n → fm_X (d + 2) kd278 4 [some (ti n), some (ti 282)] [] H K := by
    intro h1
    refine s278_4 (d + 2) K _ _ _ ?_
    refine ⟨by omega, fun q => by omega, fun _ => ?_⟩
    refine mlengthBase_Y (by omega) (by omega) ?_
    have eb : lnB ((282 : Int) + 1) = 195 := rfl
    rw [eb]
    refine ⟨by omega, fun u => B27 282 (Or.inr ?_), fun u => S283 (by omega)⟩
    unfold lnY
    rw [if_neg (by omega), if_neg (by omega), if_neg (by omega), if_neg (by omega), if_neg (by omega), if_neg (by omega)]
    omega
  have S281 : 131 ≤ n → fm_X (d + 2) kd278 4 [some (ti n), some (ti 281)] [] H K := by
    intro h1
    refine s278_4 (d + 2) K _ _ _ ?_
    refine ⟨by omega, fun q => by omega, fun _ => ?_⟩
    refine mlengthBase_Y (by omega) (by omega) ?_
    have eb : lnB ((281 : Int) + 1) = 163 := rfl
    rw [eb]
    refine ⟨by omega, fun u => B27 281 (Or.inr ?_), fun u => S282 (by omega)⟩
    unfold lnY
    rw [if_neg (by omega), if_neg (by omega), if_neg (by omega), if_neg (by omega), if_neg (by omega), if_neg (by omega)]
    omega
  have S280 : 115 ≤ n → fm_X (d + 2) kd278 4 [some (ti n), some (ti 280)] [] H K := by
    intro h1
    refine s278_4 (d + 2) K _ _ _ ?_
    refine ⟨by omega, fun q => by omega, fun _ => ?_⟩
    refine mlengthBase_Y (by omega) (by omega) ?_
    have eb : lnB ((280 : Int) + 1) = 131 := rfl
    rw [eb]
    refine ⟨by omega, fun u => B27 280 (Or.inr ?_), fun u => S281 (by omega)⟩
    unfold lnY
    rw [if_neg (by omega), if_neg (by omega), if_neg (by omega), if_neg (by omega), if_neg (by omega), if_pos (by omega)]
    omega
  have S279 : 99 ≤ n → fm_X (d + 2) kd278 4 [some (ti n), some (ti 279)] [] H K := by
    intro h1
    refine s278_4 (d + 2) K _ _ _ ?_
    refine ⟨by omega, fun q => by omega, fun _ => ?_⟩
    refine mlengthBase_Y (by omega) (by omega) ?_
    have eb : lnB ((279 : Int) + 1) = 115 := rfl
    rw [eb]
    refine ⟨by omega, fun u => B27 279 (Or.inr ?_), fun u => S280 (by omega)⟩
    unfold lnY
    rw [if_neg (by omega), if_neg (by omega), if_neg (by omega), if_neg (by omega), if_neg (by omega), if_pos (by omega)]
    omega
  have S278 : 83 ≤ n → fm_X (d + 2) kd278 4 [some (ti n), some (ti 278)] [] H K := by
    intro h1
    refine s278_4 (d + 2) K _ _ _ ?_
    refine ⟨by omega, fun q => by omega, fun _ => ?_⟩
    refine mlengthBase_Y (by omega) (by omega) ?_
    have eb : lnB ((278 : Int) + 1) = 99 := rfl
    rw [eb]
    refine ⟨by omega, fun u => B27 278 (Or.inr ?_), fun u => S279 (by omega)⟩
    unfold lnY
    rw [if_neg (by omega), if_neg (by omega), if_neg (by omega), if_neg (by omega), if_neg (by omega), if_pos (by omega)]
    omega
  have S277 : 67 ≤ n → fm_X (d + 2) kd278 4 [some (ti n), some (ti 277)] [] H K := by
    intro h1
    refine s278_4 (d + 2) K _ _ _ ?_
    refine ⟨by omega, fun q => by omega, fun _ => ?_⟩
    refine mlengthBase_Y (by omega) (by omega) ?_
    have eb : lnB ((277 : Int) + 1) = 83 := rfl
    rw [eb]
    refine ⟨by omega, fun u => B27 277 (Or.inr ?_), fun u => S278 (by omega)⟩
    unfold lnY
    rw [if_neg (by omega), if_neg (by omega), if_neg (by omega), if_neg (by omega), if_neg (by omega), if_pos (by omega)]
    omega
  have S276 : 59 ≤ n → fm_X (d + 2) kd278 4 [some (ti n), some (ti 276)] [] H K := by
    intro h1
    refine s278_4 (d + 2) K _ _ _ ?_
    refine ⟨by omega, fun q => by omega, fun _ => ?_⟩
    refine mlengthBase_Y (by omega) (by omega) ?_
    have eb : lnB ((276 : Int) + 1) = 67 := rfl
    rw [eb]
    refine ⟨by omega, fun u => B27 276 (Or.inr ?_), fun u => S277 (by omega)⟩
    unfold lnY
    rw [if_neg (by omega), if_neg (by omega), if_neg (by omega), if_neg (by omega), if_pos (by omega)]
    omega
  have S275 : 51 ≤ n → fm_X (d + 2) kd278 4 [some (ti n), some (ti 275)] [] H K := by
    intro h1
    refine s278_4 (d + 2) K _ _ _ ?_
    refine ⟨by omega, fun q => by omega, fun _ => ?_⟩
    refine mlengthBase_Y (by omega) (by omega) ?_
    have eb : lnB ((275 : Int) + 1) = 59 := rfl
    rw [eb]
    refine ⟨by omega, fun u => B27 275 (Or.inr ?_), fun u => S276 (by omega)⟩
    unfold lnY
    rw [if_neg (by omega), if_neg (by omega), if_neg (by omega), if_neg (by omega), if_pos (by omega)]
    omega
  have S274 : 43 ≤ n → fm_X (d + 2) kd278 4 [some (ti n), some (ti 274)] [] H K := by
    intro h1
    refine s278_4 (d + 2) K _ _ _ ?_
    refine ⟨by omega, fun q => by omega, fun _ => ?_⟩
    refine mlengthBase_Y (by omega) (by omega) ?_
    have eb : lnB ((274 : Int) + 1) = 51 := rfl
    rw [eb]
    refine ⟨by omega, fun u => B27 274 (Or.inr ?_), fun u => S275 (by omega)⟩
    unfold lnY
    rw [if_neg (by omega), if_neg (by omega), if_neg (by omega), if_neg (by omega), if_pos (by omega)]
    omega
  have S273 : 35 ≤ n → fm_X (d + 2) kd278 4 [some (ti n), some (ti 273)] [] H K := by
    intro h1
    refine s278_4 (d + 2) K _ _ _ ?_
    refine ⟨by omega, fun q => by omega, fun _ => ?_⟩
    refine mlengthBase_Y (by omega) (by omega) ?_
    have eb : lnB ((273 : Int) + 1) = 43 := rfl
    rw [eb]
    refine ⟨by omega, fun u => B27 273 (Or.inr ?_), fun u => S274 (by omega)⟩
    unfold lnY
    rw [if_neg (by omega), if_neg (by omega), if_neg (by omega), if_neg (by omega), if_pos (by omega)]
    omega
  have S272 : 31 ≤ n → fm_X (d + 2) kd278 4 [some (ti n), some (ti 272)] [] H K := by
    intro h1
    refine s278_4 (d + 2) K _ _ _ ?_
    refine ⟨by omega, fun q => by omega, fun _ => ?_⟩
    refine mlengthBase_Y (by omega) (by omega) ?_
    have eb : lnB ((272 : Int) + 1) = 35 := rfl
    rw [eb]
    refine ⟨by omega, fun u => B27 272 (Or.inr ?_), fun u => S273 (by omega)⟩
    unfold lnY
    rw [if_neg (by omega), if_neg (by omega), if_neg (by omega), if_pos (by omega)]
    omega
  have S271 : 27 ≤ n → fm_X (d + 2) kd278 4 [some (ti n), some (ti 271)] [] H K := by
    intro h1
    refine s278_4 (d + 2) K _ _ _ ?_
    refine ⟨by omega, fun q => by omega, fun _ => ?_⟩
    refine mlengthBase_Y (by omega) (by omega) ?_
    have eb : lnB ((271 : Int) + 1) = 31 := rfl
    rw [eb]
    refine ⟨by omega, fun u => B27 271 (Or.inr ?_), fun u => S272 (by omega)⟩
    unfold lnY
    rw [if_neg (by omega), if_neg (by omega), if_neg (by omega), if_pos (by omega)]
    omega
  have S270 : 23 ≤ n → fm_X (d + 2) kd278 4 [some (ti n), some (ti 270)] [] H K := by
    intro h1
    refine s278_4 (d + 2) K _ _ _ ?_
    refine ⟨by omega, fun q => by omega, fun _ => ?_⟩
    refine mlengthBase_Y (by omega) (by omega) ?_
    have eb : lnB ((270 : Int) + 1) = 27 := rfl
    rw [eb]
    refine ⟨by omega, fun u => B27 270 (Or.inr ?_), fun u => S271 (by omega)⟩
    unfold lnY
    rw [if_neg (by omega), if_neg (by omega), if_neg (by omega), if_pos (by omega)]
    omega
  have S269 : 19 ≤ n → fm_X (d + 2) kd278 4 [some (ti n), some (ti 269)] [] H K := by
    intro h1
    refine s278_4 (d + 2) K _ _ _ ?_
    refine ⟨by omega, fun q => by omega, fun _ => ?_⟩
    refine mlengthBase_Y (by omega) (by omega) ?_
    have eb : lnB ((269 : Int) + 1) = 23 := rfl
    rw [eb]
    refine ⟨by omega, fun u => B27 269 (Or.inr ?_), fun u => S270 (by omega)⟩
    unfold lnY
    rw [if_neg (by omega), if_neg (by omega), if_neg (by omega), if_pos (by omega)]
    omega
  have S268 : 17 ≤ n → fm_X (d + 2) kd278 4 [some (ti n), some (ti 268)] [] H K := by
    intro h1
    refine s278_4 (d + 2) K _ _ _ ?_
    refine ⟨by omega, fun q => by omega, fun _ => ?_⟩
    refine mlengthBase_Y (by omega) (by omega) ?_
    have eb : lnB ((268 : Int) + 1) = 19 := rfl
    rw [eb]
    refine ⟨by omega, fun u => B27 268 (Or.inr ?_), fun u => S269 (by omega)⟩
    unfold lnY
    rw [if_neg (by omega), if_neg (by omega), if_pos (by omega)]
    omega
  have S267 : 15 ≤ n → fm_X (d + 2) kd278 4 [some (ti n), some (ti 267)] [] H K := by
    intro h1
    refine s278_4 (d + 2) K _ _ _ ?_
    refine ⟨by omega, fun q => by omega, fun _ => ?_⟩
    refine mlengthBase_Y (by omega) (by omega) ?_
    have eb : lnB ((267 : Int) + 1) = 17 := rfl
    rw [eb]
    refine ⟨by omega, fun u => B27 267 (Or.inr ?_), fun u => S268 (by omega)⟩
    unfold lnY
    rw [if_neg (by omega), if_neg (by omega), if_pos (by omega)]
    omega
  have S266 : 13 ≤ n → fm_X (d + 2) kd278 4 [some (ti n), some (ti 266)] [] H K := by
    intro h1
    refine s278_4 (d + 2) K _ _ _ ?_
    refine ⟨by omega, fun q => by omega, fun _ => ?_⟩
    refine mlengthBase_Y (by omega) (by omega) ?_
    have eb : lnB ((266 : Int) + 1) = 15 := rfl
    rw [eb]
    refine ⟨by omega, fun u => B27 266 (Or.inr ?_), fun u => S267 (by omega)⟩
    unfold lnY
    rw [if_neg (by omega), if_neg (by omega), if_pos (by omega)]
    omega
  have S265 : 11 ≤ n → fm_X (d + 2) kd278 4 [some (ti n), some (ti 265)] [] H K := by
    intro h1
    refine s278_4 (d + 2) K _ _ _ ?_
    refine ⟨by omega, fun q => by omega, fun _ => ?_⟩
    refine mlengthBase_Y (by omega) (by omega) ?_
    have eb : lnB ((265 : Int) + 1) = 13 := rfl
    rw [eb]
    refine ⟨by omega, fun u => B27 265 (Or.inr ?_), fun u => S266 (by omega)⟩
    unfold lnY
    rw [if_neg (by omega), if_neg (by omega), if_pos (by omega)]
    omega
  have S264 : 10 ≤ n → fm_X (d + 2) kd278 4 [some (ti n), some (ti 264)] [] H K := by
    intro h1
    refine s278_4 (d + 2) K _ _ _ ?_
    refine ⟨by omega, fun q => by omega, fun _ => ?_⟩
    refine mlengthBase_Y (by omega) (by omega) ?_
    have eb : lnB ((264 : Int) + 1) = 11 := rfl
    rw [eb]
    refine ⟨by omega, fun u => B27 264 (Or.inr ?_), fun u => S265 (by omega)⟩
    unfold lnY
    rw [if_neg (by omega), if_pos (by omega)]
    omega
  have S263 : 9 ≤ n → fm_X (d + 2) kd278 4 [some (ti n), some (ti 263)] [] H K := by
    intro h1
    refine s278_4 (d + 2) K _ _ _ ?_
    refine ⟨by omega, fun q => by omega, fun _ => ?_⟩
    refine mlengthBase_Y (by omega) (by omega) ?_
    have eb : lnB ((263 : Int) + 1) = 10 := rfl
    rw [eb]
    refine ⟨by omega, fun u => B27 263 (Or.inr ?_), fun u => S264 (by omega)⟩
    unfold lnY
    rw [if_neg (by omega), if_pos (by omega)]
    omega
  have S262 : 8 ≤ n → fm_X (d + 2) kd278 4 [some (ti n), some (ti 262)] [] H K := by
    intro h1
    refine s278_4 (d + 2) K _ _ _ ?_
    refine ⟨by omega, fun q => by omega, fun _ => ?_⟩
    refine mlengthBase_Y (by omega) (by omega) ?_
    have eb : lnB ((262 : Int) + 1) = 9 := rfl
    rw [eb]
    refine ⟨by omega, fun u => B27 262 (Or.inr ?_), fun u => S263 (by omega)⟩
    unfold lnY
    rw [if_neg (by omega), if_pos (by omega)]
    omega
  have S261 : 7 ≤ n → fm_X (d + 2) kd278 4 [some (ti n), some (ti 261)] [] H K := by
    intro h1
    refine s278_4 (d + 2) K _ _ _ ?_
    refine ⟨by omega, fun q => by omega, fun _ => ?_⟩
    refine mlengthBase_Y (by omega) (by omega) ?_
    have eb : lnB ((261 : Int) + 1) = 8 := rfl
    rw [eb]
    refine ⟨by omega, fun u => B27 261 (Or.inr ?_), fun u => S262 (by omega)⟩
    unfold lnY
    rw [if_neg (by omega), if_pos (by omega)]
    omega
  have S260 : 6 ≤ n → fm_X (d + 2) kd278 4 [some (ti n), some (ti 260)] [] H K := by
    intro h1
    refine s278_4 (d + 2) K _ _ _ ?_
    refine ⟨by omega, fun q => by omega, fun _ => ?_⟩
    refine mlengthBase_Y (by omega) (by omega) ?_
    have eb : lnB ((260 : Int) + 1) = 7 := rfl
    rw [eb]
    refine ⟨by omega, fun u => B27 260 (Or.inr ?_), fun u => S261 (by omega)⟩
    unfold lnY
    rw [if_neg (by omega), if_pos (by omega)]
    omega
  have S259 : 5 ≤ n → fm_X (d + 2) kd278 4 [some (ti n), some (ti 259)] [] H K := by
    intro h1
    refine s278_4 (d + 2) K _ _ _ ?_
    refine ⟨by omega, fun q => by omega, fun _ => ?_⟩
    refine mlengthBase_Y (by omega) (by omega) ?_
    have eb : lnB ((259 : Int) + 1) = 6 := rfl
    rw [eb]
    refine ⟨by omega, fun u => B27 259 (Or.inr ?_), fun u => S260 (by omega)⟩
    unfold lnY
    rw [if_neg (by omega), if_pos (by omega)]
    omega
  have S258 : 4 ≤ n → fm_X (d + 2) kd278 4 [some (ti n), some (ti 258)] [] H K := by
    intro h1
    refine s278_4 (d + 2) K _ _ _ ?_
    refine ⟨by omega, fun q => by omega, fun _ => ?_⟩
    refine mlengthBase_Y (by omega) (by omega) ?_
    have eb : lnB ((258 : Int) + 1) = 5 := rfl
    rw [eb]
    refine ⟨by omega, fun u => B27 258 (Or.inr ?_), fun u => S259 (by omega)⟩
    unfold lnY
    rw [if_neg (by omega), if_pos (by omega)]
    omega
  have S257 : 3 ≤ n → fm_X (d + 2) kd278 4 [some (ti n), some (ti 257)] [] H K := by
    intro h1
    refine s278_4 (d + 2) K _ _ _ ?_
    refine ⟨by omega, fun q => by omega, fun _ => ?_⟩
    refine mlengthBase_Y (by omega) (by omega) ?_
    have eb : lnB ((257 : Int) + 1) = 4 := rfl
    rw [eb]
    refine ⟨by omega, fun u => B27 257 (Or.inr ?_), fun u => S258 (by omega)⟩
    unfold lnY
    rw [if_neg (by omega), if_pos (by omega)]
    omega
  exact S257 (by omega)
theorem mdisSym_Y {x : Int} (hx : 1 ≤ x ∧ x ≤ 32768) (k : K (some (ti (dsY x))) H) : fm_Y (d + 3) 281 [.int (Int32.ofInt x)] H K := by
  refine m281 [ti x] ?_
  have S29 : 24577 ≤ x → fm_X (d + 2) kd281 2 [some (ti x), some (ti 29)] [] H K := by
    intro h1
    refine s281_2 (d + 2) K _ _ _ ?_
    have e : dsY x = 29 := by
      unfold dsY
      rw [if_neg (by omega), if_neg (by omega), if_neg (by omega), if_neg (by omega), if_neg (by omega), if_neg (by omega), if_neg (by omega), if_neg (by omega), if_neg (by omega), if_neg (by omega), if_neg (by omega), if_neg (by omega), if_neg (by omega)]
      omega
    rw [e] at k
    exact ⟨by omega, fun _ => k, fun q => by omega⟩
  have S28 : 16385 ≤ x → fm_X (d + 2) kd281 2 [some (ti x), some (ti 28)] [] H K := by
    intro h1
    refine s281_2 (d + 2) K _ _ _ ?_
    refine ⟨by omega, fun q => by omega, fun _ => ?_⟩
    refine mdistanceBase_Y (by omega) (by omega) ?_
    have eb : dsB ((28 : Int) + 1) = 24577 := rfl
    rw [eb]
    refine ⟨by omega, fun u => ?_, fun u => S29 (by omega)⟩
    have e : dsY x = 28 := by
      unfold dsY
      rw [if_neg (by omega), if_neg (by omega), if_neg (by omega), if_neg (by omega), if_neg (by omega), if_neg (by omega), if_neg (by omega), if_neg (by omega), if_neg (by omega), if_neg (by omega), if_neg (by omega), if_neg (by omega), if_neg (by omega)]
      omega
    rw [e] at k
    exact k
  have S27 : 12289 ≤ x → fm_X (d + 2) kd281 2 [some (ti x), some (ti 27)] [] H K := by
    intro h1
    refine s281_2 (d + 2) K _ _ _ ?_
    refine ⟨by omega, fun q => by omega, fun _ => ?_⟩
    refine mdistanceBase_Y (by omega) (by omega) ?_
    have eb : dsB ((27 : Int) + 1) = 16385 := rfl
    rw [eb]
    refine ⟨by omega, fun u => ?_, fun u => S28 (by omega)⟩
    have e : dsY x = 27 := by
      unfold dsY
      rw [if_neg (by omega), if_neg (by omega), if_neg (by omega), if_neg (by omega), if_neg (by omega), if_neg (by omega), if_neg (by omega), if_neg (by omega), if_neg (by omega), if_neg (by omega), if_neg (by omega), if_neg (by omega), if_pos (by omega)]
      omega
    rw [e] at k
    exact k
  have S26 : 8193 ≤ x → fm_X (d + 2) kd281 2 [some (ti x), some (ti 26)] [] H K := by
    intro h1
    refine s281_2 (d + 2) K _ _ _ ?_
    refine ⟨by omega, fun q => by omega, fun _ => ?_⟩
    refine mdistanceBase_Y (by omega) (by omega) ?_
    have eb : dsB ((26 : Int) + 1) = 12289 := rfl
    rw [eb]
    refine ⟨by omega, fun u => ?_, fun u => S27 (by omega)⟩
    have e : dsY x = 26 := by
      unfold dsY
      rw [if_neg (by omega), if_neg (by omega), if_neg (by omega), if_neg (by omega), if_neg (by omega), if_neg (by omega), if_neg (by omega), if_neg (by omega), if_neg (by omega), if_neg (by omega), if_neg (by omega), if_neg (by omega), if_pos (by omega)]
      omega
    rw [e] at k
    exact k
  have S25 : 6145 ≤ x → fm_X (d + 2) kd281 2 [some (ti x), some (ti 25)] [] H K := by
    intro h1
    refine s281_2 (d + 2) K _ _ _ ?_
    refine ⟨by omega, fun q => by omega, fun _ => ?_⟩
    refine mdistanceBase_Y (by omega) (by omega) ?_
    have eb : dsB ((25 : Int) + 1) = 8193 := rfl
    rw [eb]
    refine ⟨by omega, fun u => ?_, fun u => S26 (by omega)⟩
    have e : dsY x = 25 := by
      unfold dsY
      rw [if_neg (by omega), if_neg (by omega), if_neg (by omega), if_neg (by omega), if_neg (by omega), if_neg (by omega), if_neg (by omega), if_neg (by omega), if_neg (by omega), if_neg (by omega), if_neg (by omega), if_pos (by omega)]
      omega
    rw [e] at k
    exact k
  have S24 : 4097 ≤ x → fm_X (d + 2) kd281 2 [some (ti x), some (ti 24)] [] H K := by
    intro h1
    refine s281_2 (d + 2) K _ _ _ ?_
    refine ⟨by omega, fun q => by omega, fun _ => ?_⟩
    refine mdistanceBase_Y (by omega) (by omega) ?_
    have eb : dsB ((24 : Int) + 1) = 6145 := rfl
    rw [eb]
    refine ⟨by omega, fun u => ?_, fun u => S25 (by omega)⟩
    have e : dsY x = 24 := by
      unfold dsY
      rw [if_neg (by omega), if_neg (by omega), if_neg (by omega), if_neg (by omega), if_neg (by omega), if_neg (by omega), if_neg (by omega), if_neg (by omega), if_neg (by omega), if_neg (by omega), if_neg (by omega), if_pos (by omega)]
      omega
    rw [e] at k
    exact k
  have S23 : 3073 ≤ x → fm_X (d + 2) kd281 2 [some (ti x), some (ti 23)] [] H K := by
    intro h1
    refine s281_2 (d + 2) K _ _ _ ?_
    refine ⟨by omega, fun q => by omega, fun _ => ?_⟩
    refine mdistanceBase_Y (by omega) (by omega) ?_
    have eb : dsB ((23 : Int) + 1) = 4097 := rfl
    rw [eb]
    refine ⟨by omega, fun u => ?_, fun u => S24 (by omega)⟩
    have e : dsY x = 23 := by
      unfold dsY
      rw [if_neg (by omega), if_neg (by omega), if_neg (by omega), if_neg (by omega), if_neg (by omega), if_neg (by omega), if_neg (by omega), if_neg (by omega), if_neg (by omega), if_neg (by omega), if_pos (by omega)]
      omega
    rw [e] at k
    exact k
  have S22 : 2049 ≤ x → fm_X (d + 2) kd281 2 [some (ti x), some (ti 22)] [] H K := by
    intro h1
    refine s281_2 (d + 2) K _ _ _ ?_
    refine ⟨by omega, fun q => by omega, fun _ => ?_⟩
    refine mdistanceBase_Y (by omega) (by omega) ?_
    have eb : dsB ((22 : Int) + 1) = 3073 := rfl
    rw [eb]
    refine ⟨by omega, fun u => ?_, fun u => S23 (by omega)⟩
    have e : dsY x = 22 := by
      unfold dsY
      rw [if_neg (by omega), if_neg (by omega), if_neg (by omega), if_neg (by omega), if_neg (by omega), if_neg (by omega), if_neg (by omega), if_neg (by omega), if_neg (by omega), if_neg (by omega), if_pos (by omega)]
      omega
    rw [e] at k
    exact k
  have S21 : 1537 ≤ x → fm_X (d + 2) kd281 2 [some (ti x), some (ti 21)] [] H K := by
    intro h1
    refine s281_2 (d + 2) K _ _ _ ?_
    refine ⟨by omega, fun q => by omega, fun _ => ?_⟩
    refine mdistanceBase_Y (by omega) (by omega) ?_
    have eb : dsB ((21 : Int) + 1) = 2049 := rfl
    rw [eb]
    refine ⟨by omega, fun u => ?_, fun u => S22 (by omega)⟩
    have e : dsY x = 21 := by
      unfold dsY
      rw [if_neg (by omega), if_neg (by omega), if_neg (by omega), if_neg (by omega), if_neg (by omega), if_neg (by omega), if_neg (by omega), if_neg (by omega), if_neg (by omega), if_pos (by omega)]
      omega
    rw [e] at k
    exact k
  have S20 : 1025 ≤ x → fm_X (d + 2) kd281 2 [some (ti x), some (ti 20)] [] H K := by
    intro h1
    refine s281_2 (d + 2) K _ _ _ ?_
    refine ⟨by omega, fun q => by omega, fun _ => ?_⟩
    refine mdistanceBase_Y (by omega) (by omega) ?_
    have eb : dsB ((20 : Int) + 1) = 1537 := rfl
    rw [eb]
    refine ⟨by omega, fun u => ?_, fun u => S21 (by omega)⟩
    have e : dsY x = 20 := by
      unfold dsY
      rw [if_neg (by omega), if_neg (by omega), if_neg (by omega), if_neg (by omega), if_neg (by omega), if_neg (by omega), if_neg (by omega), if_neg (by omega), if_neg (by omega), if_pos (by omega)]
      omega
    rw [e] at k
    exact k
  have S19 : 769 ≤ x → fm_X (d + 2) kd281 2 [some (ti x), some (ti 19)] [] H K := by
    intro h1
    refine s281_2 (d + 2) K _ _ _ ?_
    refine ⟨by omega, fun q => by omega, fun _ => ?_⟩
    refine mdistanceBase_Y (by omega) (by omega) ?_
    have eb : dsB ((19 : Int) + 1) = 1025 := rfl
    rw [eb]
    refine ⟨by omega, fun u => ?_, fun u => S20 (by omega)⟩
    have e : dsY x = 19 := by
      unfold dsY
      rw [if_neg (by omega), if_neg (by omega), if_neg (by omega), if_neg (by omega), if_neg (by omega), if_neg (by omega), if_neg (by omega), if_neg (by omega), if_pos (by omega)]
      omega
    rw [e] at k
    exact k
  have S18 : 513 ≤ x → fm_X (d + 2) kd281 2 [some (ti x), some (ti 18)] [] H K := by
    intro h1
    refine s281_2 (d + 2) K _ _ _ ?_
    refine ⟨by omega, fun q => by omega, fun _ => ?_⟩
    refine mdistanceBase_Y (by omega) (by omega) ?_
    have eb : dsB ((18 : Int) + 1) = 769 := rfl
    rw [eb]
    refine ⟨by omega, fun u => ?_, fun u => S19 (by omega)⟩
    have e : dsY x = 18 := by
      unfold dsY
      rw [if_neg (by omega), if_neg (by omega), if_neg (by omega), if_neg (by omega), if_neg (by omega), if_neg (by omega), if_neg (by omega), if_neg (by omega), if_pos (by omega)]
      omega
    rw [e] at k
    exact k
  have S17 : 385 ≤ x → fm_X (d + 2) kd281 2 [some (ti x), some (ti 17)] [] H K := by
    intro h1
    refine s281_2 (d + 2) K _ _ _ ?_
    refine ⟨by omega, fun q => by omega, fun _ => ?_⟩
    refine mdistanceBase_Y (by omega) (by omega) ?_
    have eb : dsB ((17 : Int) + 1) = 513 := rfl
    rw [eb]
    refine ⟨by omega, fun u => ?_, fun u => S18 (by omega)⟩
    have e : dsY x = 17 := by
      unfold dsY
      rw [if_neg (by omega), if_neg (by omega), if_neg (by omega), if_neg (by omega), if_neg (by omega), if_neg (by omega), if_neg (by omega), if_pos (by omega)]
      omega
    rw [e] at k
    exact k
  have S16 : 257 ≤ x → fm_X (d + 2) kd281 2 [some (ti x), some (ti 16)] [] H K := by
    intro h1
    refine s281_2 (d + 2) K _ _ _ ?_
    refine ⟨by omega, fun q => by omega, fun _ => ?_⟩
    refine mdistanceBase_Y (by omega) (by omega) ?_
    have eb : dsB ((16 : Int) + 1) = 385 := rfl
    rw [eb]
    refine ⟨by omega, fun u => ?_, fun u => S17 (by omega)⟩
    have e : dsY x = 16 := by
      unfold dsY
      rw [if_neg (by omega), if_neg (by omega), if_neg (by omega), if_neg (by omega), if_neg (by omega), if_neg (by omega), if_neg (by omega), if_pos (by omega)]
      omega
    rw [e] at k
    exact k
  have S15 : 193 ≤ x → fm_X (d + 2) kd281 2 [some (ti x), some (ti 15)] [] H K := by
    intro h1
    refine s281_2 (d + 2) K _ _ _ ?_
    refine ⟨by omega, fun q => by omega, fun _ => ?_⟩
    refine mdistanceBase_Y (by omega) (by omega) ?_
    have eb : dsB ((15 : Int) + 1) = 257 := rfl
    rw [eb]
    refine ⟨by omega, fun u => ?_, fun u => S16 (by omega)⟩
    have e : dsY x = 15 := by
      unfold dsY
      rw [if_neg (by omega), if_neg (by omega), if_neg (by omega), if_neg (by omega), if_neg (by omega), if_neg (by omega), if_pos (by omega)]
      omega
    rw [e] at k
    exact k
  have S14 : 129 ≤ x → fm_X (d + 2) kd281 2 [some (ti x), some (ti 14)] [] H K := by
    intro h1
    refine s281_2 (d + 2) K _ _ _ ?_
    refine ⟨by omega, fun q => by omega, fun _ => ?_⟩
    refine mdistanceBase_Y (by omega) (by omega) ?_
    have eb : dsB ((14 : Int) + 1) = 193 := rfl
    rw [eb]
    refine ⟨by omega, fun u => ?_, fun u => S15 (by omega)⟩
    have e : dsY x = 14 := by
      unfold dsY
      rw [if_neg (by omega), if_neg (by omega), if_neg (by omega), if_neg (by omega), if_neg (by omega), if_neg (by omega), if_pos (by omega)]
      omega
    rw [e] at k
    exact k
  have S13 : 97 ≤ x → fm_X (d + 2) kd281 2 [some (ti x), some (ti 13)] [] H K := by
    intro h1
    refine s281_2 (d + 2) K _ _ _ ?_
    refine ⟨by omega, fun q => by omega, fun _ => ?_⟩
    refine mdistanceBase_Y (by omega) (by omega) ?_
    have eb : dsB ((13 : Int) + 1) = 129 := rfl
    rw [eb]
    refine ⟨by omega, fun u => ?_, fun u => S14 (by omega)⟩
    have e : dsY x = 13 := by
      unfold dsY
      rw [if_neg (by omega), if_neg (by omega), if_neg (by omega), if_neg (by omega), if_neg (by omega), if_pos (by omega)]
      omega
    rw [e] at k
    exact k
  have S12 : 65 ≤ x → fm_X (d + 2) kd281 2 [some (ti x), some (ti 12)] [] H K := by
    intro h1
    refine s281_2 (d + 2) K _ _ _ ?_
    refine ⟨by omega, fun q => by omega, fun _ => ?_⟩
    refine mdistanceBase_Y (by omega) (by omega) ?_
    have eb : dsB ((12 : Int) + 1) = 97 := rfl
    rw [eb]
    refine ⟨by omega, fun u => ?_, fun u => S13 (by omega)⟩
    have e : dsY x = 12 := by
      unfold dsY
      rw [if_neg (by omega), if_neg (by omega), if_neg (by omega), if_neg (by omega), if_neg (by omega), if_pos (by omega)]
      omega
    rw [e] at k
    exact k
  have S11 : 49 ≤ x → fm_X (d + 2) kd281 2 [some (ti x), some (ti 11)] [] H K := by
    intro h1
    refine s281_2 (d + 2) K _ _ _ ?_
    refine ⟨by omega, fun q => by omega, fun _ => ?_⟩
    refine mdistanceBase_Y (by omega) (by omega) ?_
    have eb : dsB ((11 : Int) + 1) = 65 := rfl
    rw [eb]
    refine ⟨by omega, fun u => ?_, fun u => S12 (by omega)⟩
    have e : dsY x = 11 := by
      unfold dsY
      rw [if_neg (by omega), if_neg (by omega), if_neg (by omega), if_neg (by omega), if_pos (by omega)]
      omega
    rw [e] at k
    exact k
  have S10 : 33 ≤ x → fm_X (d + 2) kd281 2 [some (ti x), some (ti 10)] [] H K := by
    intro h1
    refine s281_2 (d + 2) K _ _ _ ?_
    refine ⟨by omega, fun q => by omega, fun _ => ?_⟩
    refine mdistanceBase_Y (by omega) (by omega) ?_
    have eb : dsB ((10 : Int) + 1) = 49 := rfl
    rw [eb]
    refine ⟨by omega, fun u => ?_, fun u => S11 (by omega)⟩
    have e : dsY x = 10 := by
      unfold dsY
      rw [if_neg (by omega), if_neg (by omega), if_neg (by omega), if_neg (by omega), if_pos (by omega)]
      omega
    rw [e] at k
    exact k
  have S9 : 25 ≤ x → fm_X (d + 2) kd281 2 [some (ti x), some (ti 9)] [] H K := by
    intro h1
    refine s281_2 (d + 2) K _ _ _ ?_
    refine ⟨by omega, fun q => by omega, fun _ => ?_⟩
    refine mdistanceBase_Y (by omega) (by omega) ?_
    have eb : dsB ((9 : Int) + 1) = 33 := rfl
    rw [eb]
    refine ⟨by omega, fun u => ?_, fun u => S10 (by omega)⟩
    have e : dsY x = 9 := by
      unfold dsY
      rw [if_neg (by omega), if_neg (by omega), if_neg (by omega), if_pos (by omega)]
      omega
    rw [e] at k
    exact k
  have S8 : 17 ≤ x → fm_X (d + 2) kd281 2 [some (ti x), some (ti 8)] [] H K := by
    intro h1
    refine s281_2 (d + 2) K _ _ _ ?_
    refine ⟨by omega, fun q => by omega, fun _ => ?_⟩
    refine mdistanceBase_Y (by omega) (by omega) ?_
    have eb : dsB ((8 : Int) + 1) = 25 := rfl
    rw [eb]
    refine ⟨by omega, fun u => ?_, fun u => S9 (by omega)⟩
    have e : dsY x = 8 := by
      unfold dsY
      rw [if_neg (by omega), if_neg (by omega), if_neg (by omega), if_pos (by omega)]
      omega
    rw [e] at k
    exact k
  have S7 : 13 ≤ x → fm_X (d + 2) kd281 2 [some (ti x), some (ti 7)] [] H K := by
    intro h1
    refine s281_2 (d + 2) K _ _ _ ?_
    refine ⟨by omega, fun q => by omega, fun _ => ?_⟩
    refine mdistanceBase_Y (by omega) (by omega) ?_
    have eb : dsB ((7 : Int) + 1) = 17 := rfl
    rw [eb]
    refine ⟨by omega, fun u => ?_, fun u => S8 (by omega)⟩
    have e : dsY x = 7 := by
      unfold dsY
      rw [if_neg (by omega), if_neg (by omega), if_pos (by omega)]
      omega
    rw [e] at k
    exact k
  have S6 : 9 ≤ x → fm_X (d + 2) kd281 2 [some (ti x), some (ti 6)] [] H K := by
    intro h1
    refine s281_2 (d + 2) K _ _ _ ?_
    refine ⟨by omega, fun q => by omega, fun _ => ?_⟩
    refine mdistanceBase_Y (by omega) (by omega) ?_
    have eb : dsB ((6 : Int) + 1) = 13 := rfl
    rw [eb]
    refine ⟨by omega, fun u => ?_, fun u => S7 (by omega)⟩
    have e : dsY x = 6 := by
      unfold dsY
      rw [if_neg (by omega), if_neg (by omega), if_pos (by omega)]
      omega
    rw [e] at k
    exact k
  have S5 : 7 ≤ x → fm_X (d + 2) kd281 2 [some (ti x), some (ti 5)] [] H K := by
    intro h1
    refine s281_2 (d + 2) K _ _ _ ?_
    refine ⟨by omega, fun q => by omega, fun _ => ?_⟩
    refine mdistanceBase_Y (by omega) (by omega) ?_
    have eb : dsB ((5 : Int) + 1) = 9 := rfl
    rw [eb]
    refine ⟨by omega, fun u => ?_, fun u => S6 (by omega)⟩
    have e : dsY x = 5 := by
      unfold dsY
      rw [if_neg (by omega), if_pos (by omega)]
      omega
    rw [e] at k
    exact k
  have S4 : 5 ≤ x → fm_X (d + 2) kd281 2 [some (ti x), some (ti 4)] [] H K := by
    intro h1
    refine s281_2 (d + 2) K _ _ _ ?_
    refine ⟨by omega, fun q => by omega, fun _ => ?_⟩
    refine mdistanceBase_Y (by omega) (by omega) ?_
    have eb : dsB ((4 : Int) + 1) = 7 := rfl
    rw [eb]
    refine ⟨by omega, fun u => ?_, fun u => S5 (by omega)⟩
    have e : dsY x = 4 := by
      unfold dsY
      rw [if_neg (by omega), if_pos (by omega)]
      omega
    rw [e] at k
    exact k
  have S3 : 4 ≤ x → fm_X (d + 2) kd281 2 [some (ti x), some (ti 3)] [] H K := by
    intro h1
    refine s281_2 (d + 2) K _ _ _ ?_
    refine ⟨by omega, fun q => by omega, fun _ => ?_⟩
    refine mdistanceBase_Y (by omega) (by omega) ?_
    have eb : dsB ((3 : Int) + 1) = 5 := rfl
    rw [eb]
    refine ⟨by omega, fun u => ?_, fun u => S4 (by omega)⟩
    have e : dsY x = 3 := by
      unfold dsY
      rw [if_pos (by omega)]
      omega
    rw [e] at k
    exact k
  have S2 : 3 ≤ x → fm_X (d + 2) kd281 2 [some (ti x), some (ti 2)] [] H K := by
    intro h1
    refine s281_2 (d + 2) K _ _ _ ?_
    refine ⟨by omega, fun q => by omega, fun _ => ?_⟩
    refine mdistanceBase_Y (by omega) (by omega) ?_
    have eb : dsB ((2 : Int) + 1) = 4 := rfl
    rw [eb]
    refine ⟨by omega, fun u => ?_, fun u => S3 (by omega)⟩
    have e : dsY x = 2 := by
      unfold dsY
      rw [if_pos (by omega)]
      omega
    rw [e] at k
    exact k
  have S1 : 2 ≤ x → fm_X (d + 2) kd281 2 [some (ti x), some (ti 1)] [] H K := by
    intro h1
    refine s281_2 (d + 2) K _ _ _ ?_
    refine ⟨by omega, fun q => by omega, fun _ => ?_⟩
    refine mdistanceBase_Y (by omega) (by omega) ?_
    have eb : dsB ((1 : Int) + 1) = 3 := rfl
    rw [eb]
    refine ⟨by omega, fun u => ?_, fun u => S2 (by omega)⟩
    have e : dsY x = 1 := by
      unfold dsY
      rw [if_pos (by omega)]
      omega
    rw [e] at k
    exact k
  have S0 : 1 ≤ x → fm_X (d + 2) kd281 2 [some (ti x), some (ti 0)] [] H K := by
    intro h1
    refine s281_2 (d + 2) K _ _ _ ?_
    refine ⟨by omega, fun q => by omega, fun _ => ?_⟩
    refine mdistanceBase_Y (by omega) (by omega) ?_
    have eb : dsB ((0 : Int) + 1) = 2 := rfl
    rw [eb]
    refine ⟨by omega, fun u => ?_, fun u => S1 (by omega)⟩
    have e : dsY x = 0 := by
      unfold dsY
      rw [if_pos (by omega)]
      omega
    rw [e] at k
    exact k
  exact S0 (by omega)
end SYMS
