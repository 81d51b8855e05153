/-! FREEZING: the reference, whole -/
theorem nd_at : ∀ (L : List Int) (i j : Nat) (x : Int), L.Nodup → L[i]? = some x → L[j]? = some x → i = j
  | [], i, j, x, _, h, _ => by simp at h
  | a :: r, 0, 0, x, _, _, _ => rfl
  | a :: r, 0, j + 1, x, hn, h1, h2 => by
    have e : a = x := Option.some.inj h1
    have m : x ∈ r := List.mem_of_getElem? (show r[j]? = some x from h2)
    rw [← e] at m
    exact absurd m (List.nodup_cons.1 hn).1
  | a :: r, i + 1, 0, x, hn, h1, h2 => by
    have e : a = x := Option.some.inj h2
    have m : x ∈ r := List.mem_of_getElem? (show r[i]? = some x from h1)
    rw [← e] at m
    exact absurd m (List.nodup_cons.1 hn).1
  | a :: r, i + 1, j + 1, x, hn, h1, h2 => by
    have := nd_at r i j x (List.nodup_cons.1 hn).2 h1 h2
    omega
theorem nu_at {L : List Int} {i : Nat} {x : Int} (hn : L.Nodup) (h : L[i]? = some x) : nuO L x = (i : Int) + 1 := by
  unfold nuO
  rw [idx_first L i h (fun j hj q => by have := nd_at L i j x hn h q; omega)]
theorem mr_nw {M M2 : FM} {q b st cl : Nat} {z : Int} (hq : q ≠ st) (f : ∀ c : Nat, c ≠ q → M2 c = M c) (h1 : M2 q 1 = 0) (h3 : M2 q 3 = 0) (h5 : M2 q 5 = 0) (h6 : M2 q 6 = 0) (h0 : M st 0 = 0) : mrO M2 q b st cl z [] := by
  refine ⟨⟨⟨h1, by show 0 ≤ 65536; omega, rfl⟩, h3, ⟨h5, rfl⟩, fun i hi => ?_⟩, h6⟩
  have ei : i = 0 := by
    have : i ≤ 0 / 8192 := hi
    omega
  rw [ei, f st (fun e => hq e.symm)]
  exact h0
/-- what freezing leaves, of the reference -/
def mfF3 (M M2 : FM) : Prop := (∀ c : Nat, c ≠ 168 → (c < 188 ∨ 203 < c) → (c < 211 ∨ 237 < c) → M2 c = M c) ∧ ∀ i : Int, (i < 28 ∨ 89 < i) → M2 168 i = M 168 i
theorem mfF3_t {M M2 M3 : FM} (h : mfF3 M M2) (g : mfF3 M2 M3) : mfF3 M M3 := ⟨fun c h1 h2 h3 => (g.1 c h1 h2 h3).trans (h.1 c h1 h2 h3), fun i hi => (g.2 i hi).trans (h.2 i hi)⟩
section MFREEZE2
variable {d nx zl : Nat} {K : Option TV → FH → Prop} {sh : Nat → Option Shp} {M0 M : FM}
theorem mfreeze_Y {lg op wh : Int} (hT : treeR sh M0) (hts : tsR M0 M) (h228 : M 228 0 = 0) (h232 : M 232 0 = 0) (hlg : -2147483648 ≤ lg ∧ lg ≤ 2147483647) (hop : -2147483648 ≤ op ∧ op ≤ 2147483647) (hwh : -2147483648 ≤ wh ∧ wh ≤ 2147483647)
    (kb : lg < 12 ∨ 16 < lg ∨ op < 0 ∨ 15 < op → K (some (ti (-1))) (sh, M, nx, zl))
    (kf : ∀ (M2 : FM) (B : Nat), (12 ≤ lg ∧ lg ≤ 16) → (0 ≤ op ∧ op ≤ 15) → (2 : Int) ^ lg.toNat = B → bB5 B → mfF3 M M2 → M2 211 = M 211 → M2 168 59 = M 168 59 → (M2 228 0 = 0 ∧ M2 232 0 = 0) → (∀ s : RS, fzO M0 op B = some s → ¬ (fzT M0 op B s).length ≤ 131072) → K (some (ti (-6))) (sh, M2, nx, zl))
    (kg : ∀ (M2 : FM) (B : Nat) (s : RS), (12 ≤ lg ∧ lg ≤ 16) → (0 ≤ op ∧ op ≤ 15) → (2 : Int) ^ lg.toNat = B → bB5 B → mfF3 M M2 → (M2 228 0 = 0 ∧ M2 232 0 = 0) → fzO M0 op B = some s → (fzT M0 op B s).length ≤ 131072 → (fzX M0 lg op wh B s).length ≤ 131072 → M2 168 59 = (fzX M0 lg op wh B s).length → sl (M2 211) 0 (fzX M0 lg op wh B s).length = fzX M0 lg op wh B s → rnU M2 (nuL M0) → ∀ y4 y6 y8 y9 y10 y11 y12 y13 : Option TV, (o_al 0 (o_ic 0 (o_put 12 91 91 (o_al 0 (o_callv (d + 123) 316 0 12 (o_al 0 (o_get 12 59 59 (o_iret K))))))) : FC) [some (fx 168), some (ti lg), some (ti op), some (ti wh), y4, none, y6, none, y8, y9, y10, y11, y12, y13] [] (sh, M2, nx, zl)) :
    fm_Y (d + 124) 262 [.ref 168, .int (Int32.ofInt lg), .int (Int32.ofInt op), .int (Int32.ofInt wh)] (sh, M, nx, zl) K := by
  have hW := hT.1
  refine m262 [fx 168, ti lg, ti op, ti wh] ?_
  refine ⟨by omega, fun w => kb (by omega), fun w1 => ?_⟩
  refine ⟨by omega, fun w => kb (by omega), fun w2 => ?_⟩
  refine ⟨by omega, fun w => kb (by omega), fun w3 => ?_⟩
  refine ⟨by omega, fun w4 => ?_, fun w => kb (by omega)⟩
  have rlg : 12 ≤ lg ∧ lg ≤ 16 := by omega
  have rop : 0 ≤ op ∧ op ≤ 15 := by omega
  obtain ⟨B, eB, hB⟩ := bB5_lg rlg
  have br := bB5_r hB
  refine ⟨by omega, ?_⟩
  refine ⟨Or.inl rfl, ?_⟩
  obtain ⟨R1, g1⟩ : ∃ R1 : FM, R1 = pq M 168 68 (1 * 2 ^ lg.toNat) := ⟨_, rfl⟩
  obtain ⟨R2, g2⟩ : ∃ R2 : FM, R2 = pq R1 168 69 op := ⟨_, rfl⟩
  obtain ⟨R3, g3⟩ : ∃ R3 : FM, R3 = pq R2 168 62 0 := ⟨_, rfl⟩
  obtain ⟨R4, g4⟩ : ∃ R4 : FM, R4 = pq R3 168 61 96 := ⟨_, rfl⟩
  have ro : ∀ c : Nat, c ≠ 168 → R4 c = M c := fun c hc => by rw [g4, pq_o _ _ _ hc, g3, pq_o _ _ _ hc, g2, pq_o _ _ _ hc, g1, pq_o _ _ _ hc]
  have rn : ∀ i : Int, i ≠ 61 → i ≠ 62 → i ≠ 68 → i ≠ 69 → R4 168 i = M 168 i := fun i i1 i2 i3 i4 => by rw [g4, pq_ne _ _ _ _ i1, g3, pq_ne _ _ _ _ i2, g2, pq_ne _ _ _ _ i4, g1, pq_ne _ _ _ _ i3]
  have r61 : R4 168 61 = 96 := by rw [g4, pq_at]
  have r62 : R4 168 62 = 0 := by rw [g4, pq_ne _ _ _ _ (by decide), g3, pq_at]
  have r69 : R4 168 69 = op := by rw [g4, pq_ne _ _ _ _ (by decide), g3, pq_ne _ _ _ _ (by decide), g2, pq_at]
  have r68 : R4 168 68 = B := by rw [g4, pq_ne _ _ _ _ (by decide), g3, pq_ne _ _ _ _ (by decide), g2, pq_ne _ _ _ _ (by decide), g1, pq_at, Int.one_mul]; exact eB
  have ts4 : tsR M0 R4 := ⟨fun c c1 c2 => by rw [ro c (by omega)]; exact hts.1 c c1 c2, fun i hi => by rw [rn i (by omega) (by omega) (by omega) (by omega)]; exact hts.2 i hi⟩
  have F4 : mfF3 M R4 := ⟨fun c c1 _ _ => ro c c1, fun i hi => rn i (by omega) (by omega) (by omega) (by omega)⟩
  have T : b262_47 (d + 123) (fW (d + 123) kd262 K) K [some (fx 168), some (ti lg), some (ti op), some (ti wh), none, none, none, none, none, none, none, none, none, none] [] (sh, R4, nx, zl) := by
    refine giveNumbers_Y (d := d + 121) (twR_k hW ts4.1 (fun i _ hi => ts4.2 i hi)) (fun Ma fa ua ia => ?_)
    rw [nuL_cg ts4] at ua
    rw [idL_cg ts4] at ia
    obtain ⟨L, hL⟩ : ∃ L : List Int, L = nuL M0 := ⟨_, rfl⟩
    obtain ⟨ids, hids⟩ : ∃ ids : List Int, ids = idL M0 := ⟨_, rfl⟩
    have hP : nuP M0 L := by rw [hL]; exact nuG_P hW 2000
    have LL := nuP_len hW hP
    have hsx := sx_of (op := op) hW rop hB
    rw [← hL, ← hids] at hsx
    rw [← hL] at ua
    rw [← hids] at ia
    have tsa : tsR M0 Ma := ⟨fun c c1 c2 => by rw [fa.1 c (by omega) (by omega) (by omega) (by omega)]; exact ts4.1 c c1 c2, fun i hi => by rw [fa.2 i (by omega) (by omega)]; exact ts4.2 i hi⟩
    have Fa : mfF3 M Ma := mfF3_t F4 ⟨fun c c1 c2 c3 => fa.1 c c1 (by omega) (by omega) (by omega), fun i hi => fa.2 i (by omega) (by omega)⟩
    have hWa : twR Ma := twR_k hW tsa.1 (fun i _ hi => tsa.2 i hi)
    have hPa : nuP Ma L := by
      rw [hL, ← nuL_cg tsa]
      exact nuG_P hWa 2000
    have wD : rbO Ma (some (List.replicate 96 0)) := by
      have e61 : Ma 168 61 = 96 := by rw [fa.2 61 (by decide) (by decide)]; exact r61
      refine ⟨by omega, by rw [e61, List.length_replicate]; rfl, fun i y hi hy => ?_, by rw [fa.2 62 (by decide) (by decide)]; exact r62⟩
      have := (List.getElem?_eq_some_iff.1 hy).1
      rw [List.length_replicate] at this
      omega
    refine mputData_Y (d := d + 101) (B := B) hWa hPa ua hB rop (by rw [fa.2 68 (by decide) (by decide)]; exact r68) (by rw [fa.2 69 (by decide) (by decide)]; exact r69) wD (fun Mb fb ub => ?_)
    rw [dtE_cg tsa] at ub
    obtain ⟨D, hD⟩ : ∃ D : DS, D = dtE M0 op B L := ⟨_, rfl⟩
    rw [hL] at hD
    have eDs : dtE M0 op B L = D := by rw [hD, hL]
    rw [eDs] at ub
    rw [hL, ← hD, ← hL] at hsx
    have tsb : tsR M0 Mb := ⟨fun c c1 c2 => by rw [fb.1 c (by omega) (by omega) (by omega) (by omega)]; exact tsa.1 c c1 c2, fun i hi => by rw [fb.2 i (by omega) (by omega) (by omega) (by omega)]; exact tsa.2 i hi⟩
    have Fb : mfF3 M Mb := mfF3_t Fa ⟨fun c c1 c2 c3 => fb.1 c c1 (by omega) c2 (by omega), fun i hi => fb.2 i (by omega) (by omega) (by omega) (by omega)⟩
    refine mrbegin_Y (d := d + 122) (mr226 sh) (fun Mc fc c1 c3 c5 c6 => ?_)
    refine mrbegin_Y (d := d + 122) (mr230 sh) (fun Md fd d1 d3 d5 d6 => ?_)
    have z228 : Mb 228 0 = 0 := by rw [fb.1 228 (by omega) (by omega) (by omega) (by omega), fa.1 228 (by omega) (by omega) (by omega) (by omega), ro 228 (by omega)]; exact h228
    have z232 : Mc 232 0 = 0 := by rw [fc 232 (by omega), fb.1 232 (by omega) (by omega) (by omega) (by omega), fa.1 232 (by omega) (by omega) (by omega) (by omega), ro 232 (by omega)]; exact h232
    have odb : ∀ c : Nat, c ≠ 226 → c ≠ 230 → Md c = Mb c := fun c e1 e2 => by rw [fd c e2, fc c e1]
    have hI0 : mrO Md 226 227 228 229 (1 - op % 2) [] := mrO_F (mr_nw (by decide) fc c1 c3 c5 c6 z228) (fd 226 (by omega)) (fd 227 (by omega)) (fd 228 (by omega)) (fd 229 (by omega))
    have hQ0 : mrO Md 230 231 232 233 (1 - op % 2) [] := mr_nw (by decide) fd d1 d3 d5 d6 z232
    have n5 : Md 168 5 = M0 168 5 := by rw [odb 168 (by omega) (by omega)]; exact tsb.2 5 (by omega)
    have nN := hW.1.1
    -- no inode yet
    have LP : ∀ (N i : Nat) (Me : FM), (M0 168 5).toNat - i < N → (i : Int) ≤ M0 168 5 → (∀ c : Nat, c ≠ 234 → Me c = Md c) → (∀ j : Int, 0 ≤ j → j < i → Me 234 j = -1) → fm_X (d + 123) kd262 72 [some (fx 168), some (ti lg), some (ti op), some (ti wh), some (ti i), none, none, none, none, none, none, none, none, none] [] (sh, Me, nx, zl) K := by
      intro N
      induction N with
      | zero =>
        intro i Me hN
        omega
      | succ N ih =>
        intro i Me hN hi fe' ge
        have u5 : Me 168 5 = M0 168 5 := by rw [fe' 168 (by omega)]; exact n5
        refine s262_72 (d + 123) K _ _ _ ?_
        refine ⟨by omega, fun w => ?_, fun w => ?_⟩
        · have oeb : ∀ c : Nat, c ≠ 226 → c ≠ 230 → c ≠ 234 → Me c = Mb c := fun c e1 e2 e3 => by rw [fe' c e3, odb c e1 e2]
          have all : ∀ x ∈ L, Me 234 x = -1 := fun x hx => by
            have := (hP.2 x hx).1
            exact ge x this.1 (by omega)
          have tse : tsR M0 Me := ⟨fun c c1 c2 => by rw [oeb c (by omega) (by omega) (by omega)]; exact tsb.1 c c1 c2, fun i hi => by rw [oeb 168 (by omega) (by omega) (by omega)]; exact tsb.2 i hi⟩
          have rx : rxC M0 Me op L ids D := by
            refine ⟨tse, ?_, ⟨?_, fun x hx => ?_⟩, ?_, fun i b hb => ?_, fun y hy y2 => ?_⟩
            · rw [oeb 168 (by omega) (by omega) (by omega), fb.2 69 (by omega) (by decide) (by decide) (by decide), fa.2 69 (by decide) (by decide)]
              exact r69
            · rw [oeb 168 (by omega) (by omega) (by omega), fb.2 63 (by omega) (by decide) (by decide) (by decide)]
              exact ua.1
            · obtain ⟨i, hi, ex⟩ := List.getElem_of_mem hx
              have hg : L[i]? = some x := by rw [← ex]; exact List.getElem?_eq_getElem hi
              rw [nu_at hP.1 hg, oeb 214 (by omega) (by omega) (by omega), fb.1 214 (by omega) (by omega) (by omega) (by omega)]
              exact (ua.2.1 i x hg).2
            · unfold rdI at *
              rw [oeb 168 (by omega) (by omega) (by omega), oeb 215 (by omega) (by omega) (by omega), fb.2 66 (by omega) (by decide) (by decide) (by decide), fb.1 215 (by omega) (by omega) (by omega) (by omega)]
              exact ia
            · rw [oeb 222 (by omega) (by omega) (by omega)]
              exact ub.1.2.1.2 i b hb
            · obtain ⟨i, hi, ex⟩ := List.getElem_of_mem hy
              have hg : L[i]? = some y := by rw [← ex]; exact List.getElem?_eq_getElem hi
              have na := ub.2 i y hi hg (by rw [tsa.1 171 (by omega) (by omega)]; exact y2)
              unfold naM at *
              rw [oeb 216 (by omega) (by omega) (by omega), oeb 217 (by omega) (by omega) (by omega), oeb 218 (by omega) (by omega) (by omega), oeb 219 (by omega) (by omega) (by omega), oeb 220 (by omega) (by omega) (by omega), oeb 221 (by omega) (by omega) (by omega)]
              exact na
          have hIe : mrO Me 226 227 228 229 (1 - op % 2) [] := mrO_F hI0 (fe' 226 (by omega)) (fe' 227 (by omega)) (fe' 228 (by omega)) (fe' 229 (by omega))
          have hQe : mrO Me 230 231 232 233 (1 - op % 2) [] := mrO_F hQ0 (fe' 230 (by omega)) (fe' 231 (by omega)) (fe' 232 (by omega)) (fe' 233 (by omega))
          have sz := mr_size hIe
          have rj : rjS M0 Me (1 - op % 2) L (some rs0) := by
            refine ⟨[], [], ⟨hIe, hQe⟩, fun x hx => ?_, fun q => (by cases q), fun s hs => ?_⟩
            · rw [all x hx, sz]
              show -1 ≤ (-1 : Int) ∧ (-1 : Int) ≤ min 65536 ((0 : Nat) : Int)
              omega
            · rw [← Option.some.inj hs]
              refine ⟨⟨rfl, rfl⟩, ⟨Nat.zero_le _, Nat.zero_le _⟩, fun x hx => all x hx, fun x => ?_⟩
              show -1 ≤ (-1 : Int) ∧ (-1 : Int) ≤ ((0 : Nat) : Int)
              omega
          have h0L := hsx.2.2.2.2.1.1
          obtain ⟨a, h9, t9, ea, hS, ha3, hE, -, -, hDd⟩ := nd_of hT (hP.2 0 h0L)
          have e4 := ((hDd.2 nN.2.2).2.1 rfl).2
          refine fm_Y.mono (d := d + 101 + 22) (by omega) (doDir_Y hT hsx 101 0 0 a Me (some rs0) _ h0L nN.2.2 ea e4 (by omega) (Or.inl rfl) rx rj (fun Mf ff rf jf pf => ?_))
          obtain ⟨I, Q, ⟨hI, hQ⟩, hr1, hn1, ho1⟩ := jf
          have eO : rsD M0 (1 - op % 2) ids L D 101 0 (some rs0) = fzO M0 op B := by
            unfold fzO
            rw [← hL, ← hids, eDs]
          rw [eO] at hn1 ho1
          have c1f : Mf 226 6 = if 65536 < I.length then 1 else 0 := hI.2
          have c2f : Mf 230 6 = if 65536 < Q.length then 1 else 0 := hQ.2
          have s1f : Mf 228 0 = 0 := hI.1.2.2.2 0 (Nat.zero_le _)
          have s2f : Mf 232 0 = 0 := hQ.1.2.2.2 0 (Nat.zero_le _)
          have Fe : mfF3 M Me := mfF3_t Fb ⟨fun c c1 c2 c3 => oeb c (by omega) (by omega) (by omega), fun i hi => by rw [oeb 168 (by omega) (by omega) (by omega)]⟩
          have Ff : mfF3 M Mf := mfF3_t Fe ⟨fun c c1 c2 c3 => ff.1 c c1 c2 (by omega) (by omega), fun i hi => ff.2.1 i (by omega) (by omega) (by omega) (by omega) (by omega)⟩
          have f211 : Mf 211 = M 211 := by rw [ff.1 211 (by omega) (by omega) (by omega) (by omega), oeb 211 (by omega) (by omega) (by omega), fb.1 211 (by omega) (by omega) (by omega) (by omega), fa.1 211 (by omega) (by omega) (by omega) (by omega), ro 211 (by omega)]
          have f59 : Mf 168 59 = M 168 59 := by rw [ff.2.1 59 (by decide) (by decide) (by decide) (by decide) (by decide), oeb 168 (by omega) (by omega) (by omega), fb.2 59 (by omega) (by decide) (by decide) (by decide), fa.2 59 (by decide) (by decide), rn 59 (by decide) (by decide) (by decide) (by decide)]
          have FULL : (65536 < I.length ∨ 65536 < Q.length) → K (some (ti (-6))) (sh, Mf, nx, zl) := fun q => by
            refine kf Mf B rlg rop eB hB Ff f211 f59 ⟨s1f, s2f⟩ (fun s hs => ?_)
            obtain ⟨-, b1, -⟩ := ho1 s hs
            omega
          by_cases q1 : 65536 < I.length
          · rw [if_pos q1] at c1f
            exact ⟨by omega, fun _ => FULL (Or.inl q1), fun w => by omega⟩
          rw [if_neg q1] at c1f
          refine ⟨by omega, fun w => by omega, fun _ => ?_⟩
          by_cases q2 : 65536 < Q.length
          · rw [if_pos q2] at c2f
            exact ⟨by omega, fun w => by omega, fun _ => FULL (Or.inr q2)⟩
          rw [if_neg q2] at c2f
          refine ⟨by omega, fun _ => ?_, fun w => by omega⟩
          cases hs1 : fzO M0 op B with
          | none =>
            have := hn1 hs1
            omega
          | some s =>
            obtain ⟨⟨b1, b2⟩, ⟨b3, b4⟩, b5, b6⟩ := ho1 s hs1
            obtain ⟨db1, db2, db3, db4, db5⟩ := dtE_b (op := op) (B := B) hW hP hB
            rw [eDs] at db1 db2 db3 db4 db5
            have pos : ∀ x ∈ L, 0 ≤ rP s x := by
              rw [hL]
              refine rsD_all (z := 1 - op % 2) (ids := idL M0) (D := dtE M0 op B (nuL M0)) hT ?_
              exact hs1
            have ffb : ∀ c : Nat, c ≠ 168 → (c < 188 ∨ 203 < c) → c ≠ 215 → (c < 226 ∨ 237 < c) → Mf c = Mb c := fun c e1 e2 e3 e4 => by rw [ff.1 c e1 e2 e3 e4, oeb c (by omega) (by omega) (by omega)]
            have ffi : ∀ i : Int, i ≠ 28 → i ≠ 31 → i ≠ 42 → i ≠ 66 → i ≠ 86 → Mf 168 i = Mb 168 i := fun i e1 e2 e3 e4 e5 => by rw [ff.2.1 i e1 e2 e3 e4 e5, oeb 168 (by omega) (by omega) (by omega)]
            have wDf : rbO Mf (some (dI D)) := rbO_F ub.1.1 (ffi 61 (by decide) (by decide) (by decide) (by decide) (by decide)) (ffi 62 (by decide) (by decide) (by decide) (by decide) (by decide)) (ffb 212 (by omega) (by omega) (by omega) (by omega))
            have eI : D = dtE M0 op B (nuL M0) := hD
            have L0 : L[0]? = some 0 := by
              rw [hL]
              obtain ⟨X, hX⟩ := nuG_pre M0 0 2000
              have e : nuL M0 = nuG M0 0 ++ X := by
                unfold nuL
                rw [← hX, show 0 + 2000 = 2000 by omega]
              rw [e]
              rfl
            refine mtail_Y (d := d) (T := dT D) (P := rP s) (I := I) (Q := Q) (D0 := dI D) (L := L) (ids := ids) (B := B) (ia := (dI D).length) (r0 := fzR op s 0) rop (by omega) hwh (by omega) (by rw [ffi 68 (by decide) (by decide) (by decide) (by decide) (by decide), fb.2 68 (by omega) (by decide) (by decide) (by decide), fa.2 68 (by decide) (by decide)]; exact r68) rf.2.1 rf.2.2.1.1 LL (fun i x hx => ?_) L0 rf.2.2.2.1 hsx.2.2.2.2.2.1.1 hsx.2.2.2.2.2.1.2.1 (by rw [ffi 78 (by decide) (by decide) (by decide) (by decide) (by decide)]; exact ub.1.2.2.2.1) db3 (fun i t ht => ?_) hI hQ b3 b4 (fun x hx => ?_) wDf rfl db4 (by rw [b1]; rfl) (fun M2 f2 g211 g59 gz hfull => ?_) (fun M2 X f2 gz fit len eX lX e59 sX y4 y6 y8 y9 y10 y11 y12 y13 => ?_)
            · have xr := (hP.2 x (List.mem_of_getElem? hx)).1
              refine ⟨?_, by omega⟩
              rw [ffb 213 (by omega) (by omega) (by omega) (by omega), fb.1 213 (by omega) (by omega) (by omega) (by omega)]
              exact (ua.2.1 i x hx).1
            · refine ⟨?_, db2 t (List.mem_of_getElem? ht)⟩
              rw [ffb 223 (by omega) (by omega) (by omega) (by omega), ffb 224 (by omega) (by omega) (by omega) (by omega)]
              exact ub.1.2.2.2.2 i t ht
            · have := b6 x
              rw [b1]
              exact ⟨b5 x hx, pos x hx, this.2⟩
            · have F2 : mfF3 M M2 := mfF3_t Ff ⟨fun c c1 c2 c3 => f2.1 c c1 c2 (by omega) (by omega) (by omega), fun i hi => f2.2 i (by omega) (by omega) (by omega) (by omega) (by omega) (by omega)⟩
              refine kf M2 B rlg rop eB hB F2 (by rw [g211, f211]) (by rw [g59, f59]) gz (fun s' hs' => ?_)
              rw [hs1] at hs'
              rw [← Option.some.inj hs']
              intro hle
              have e : fzT M0 op B s = tX5 (1 - op % 2) (tX4 (1 - op % 2) op (tX3 (1 - op % 2) ((dI D ++ clG (1 - op % 2) I 0 (pcN I.length)) ++ clG (1 - op % 2) Q 0 (pcN Q.length)) (dT D)) (exL (fun x => stI (1 - op % 2) I (rP s x) * 65536 + rP s x % 8192) L)) ids := by
                rw [b1, b2, hL, hids, eI]
                rfl
              rw [e] at hle
              refine hfull ?_ hle
              have l1 := tX5_le (1 - op % 2) (tX4 (1 - op % 2) op (tX3 (1 - op % 2) ((dI D ++ clG (1 - op % 2) I 0 (pcN I.length)) ++ clG (1 - op % 2) Q 0 (pcN Q.length)) (dT D)) (exL (fun x => stI (1 - op % 2) I (rP s x) * 65536 + rP s x % 8192) L)) ids
              have l2 := tX4_le (1 - op % 2) op (tX3 (1 - op % 2) ((dI D ++ clG (1 - op % 2) I 0 (pcN I.length)) ++ clG (1 - op % 2) Q 0 (pcN Q.length)) (dT D)) (exL (fun x => stI (1 - op % 2) I (rP s x) * 65536 + rP s x % 8192) L)
              have l3 := tX3_le (1 - op % 2) ((dI D ++ clG (1 - op % 2) I 0 (pcN I.length)) ++ clG (1 - op % 2) Q 0 (pcN Q.length)) (dT D)
              rw [List.length_append, List.length_append] at l3
              omega
            · have F2 : mfF3 M M2 := mfF3_t Ff ⟨fun c c1 c2 c3 => f2.1 c c1 c2 (by omega) (by omega) (by omega), fun i hi => f2.2 i (by omega) (by omega) (by omega) (by omega) (by omega) (by omega)⟩
              have e : fzX M0 lg op wh B s = X := by
                rw [eX, b1, b2, hL, hids, eI]
                rfl
              have eT : fzT M0 op B s = tX5 (1 - op % 2) (tX4 (1 - op % 2) op (tX3 (1 - op % 2) ((dI D ++ clG (1 - op % 2) I 0 (pcN I.length)) ++ clG (1 - op % 2) Q 0 (pcN Q.length)) (dT D)) (exL (fun x => stI (1 - op % 2) I (rP s x) * 65536 + rP s x % 8192) L)) ids := by
                rw [b1, b2, hL, hids, eI]
                rfl
              have un : rnU M2 (nuL M0) := by
                rw [← hL]
                unfold rnU at *
                rw [f2.2 63 (by decide) (by decide) (by decide) (by decide) (by decide) (by decide), ffi 63 (by decide) (by decide) (by decide) (by decide) (by decide), fb.2 63 (by omega) (by decide) (by decide) (by decide), f2.1 213 (by omega) (by omega) (by omega) (by omega) (by omega), f2.1 214 (by omega) (by omega) (by omega) (by omega) (by omega), ffb 213 (by omega) (by omega) (by omega) (by omega), ffb 214 (by omega) (by omega) (by omega) (by omega), fb.1 213 (by omega) (by omega) (by omega) (by omega), fb.1 214 (by omega) (by omega) (by omega) (by omega), f2.2 5 (by decide) (by decide) (by decide) (by decide) (by decide) (by decide), ffi 5 (by decide) (by decide) (by decide) (by decide) (by decide), fb.2 5 (by omega) (by decide) (by decide) (by decide)]
                exact ua
              exact kg M2 B s rlg rop eB hB F2 gz hs1 (by rw [eT]; exact len) (by rw [e]; exact lX) (by rw [e]; exact e59) (by rw [e]; exact sX) un y4 y6 y8 y9 y10 y11 y12 y13
        · refine ⟨by omega, ?_⟩
          obtain ⟨P, gP⟩ : ∃ P : FM, P = um Me 234 (ur (Me 234) i (-1)) := ⟨_, rfl⟩
          have F := ih (i + 1) P (by omega) (by omega) (fun c hc => by rw [gP, um_ne hc, fe' c hc]) (fun j j0 j1 => ?_)
          · rw [gP] at F
            exact F
          · rw [gP, um_at]
            by_cases e : j = i
            · rw [e, ur_at]
            · rw [ur_ne e]
              exact ge j j0 (by omega)
    have F := LP ((M0 168 5).toNat + 1) 0 Md (by omega) (by omega) (fun _ _ => rfl) (fun j j0 j1 => by omega)
    exact F
  rw [g4, g3, g2, g1] at T
  exact T
end MFREEZE2
