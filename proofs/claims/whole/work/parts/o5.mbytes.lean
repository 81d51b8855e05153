/-! COUNTING STRAYS: a file's bytes, the reference -/
section MBYTES
variable {d nx zl : Nat} {K : Option TV → FH → Prop} {sh : Nat → Option Shp} {M : FM} {IR IS LR LS : List Int} {B ids F n s A : Int} {pl h f fg : Int → Int}
theorem rbF_t {M1 M2 M3 : FM} (h : rbF M1 M2) (g : rbF M2 M3) : rbF M1 M3 := ⟨fun c h1 h2 h3 => (g.1 c h1 h2 h3).trans (h.1 c h1 h2 h3), fun i hi => (g.2 i hi).trans (h.2 i hi)⟩
theorem areBytes_Y {x j : Int} (h8 : s8M M IR IS LR LS B ids F n pl h f fg s A) (hfs : ∀ k : Int, 0 ≤ k → k < F → 0 ≤ fsF f B fg k) (hj : 1 ≤ j ∧ j ≤ n) (hk : kdT (le (lf IR) (pl j) 2) = 2) (hfd : fdP f (lf IR) (fsF f B fg) B A (pl j)) (hv : ofV M (lf IR) B (pl j)) (hx : 0 ≤ x ∧ x < 2000) (hsz : fSz (lf IR) (pl j) = M 180 x) (hat : 0 ≤ M 179 x ∧ 0 ≤ M 180 x ∧ M 179 x + M 180 x ≤ 65536)
    (k : ∀ (M2 : FM) (z : Int), rbF M M2 → (z = 1 ∧ (∀ y : Int, 0 ≤ y → y < M 180 x → ctF f (lf IR) fg B (pl j) y % 256 = M 181 (M 179 x + y) % 256) ∨ z = 0 ∧ ¬ (∀ y : Int, 0 ≤ y → y < M 180 x → ctF f (lf IR) fg B (pl j) y % 256 = M 181 (M 179 x + y) % 256)) → K (some (ti z)) (sh, M2, nx, zl)) : fm_Y (d + 7) 381 [.ref 168, .int (Int32.ofInt x)] (sh, M, nx, zl) K := by
  have hL := h8.1
  have hB := hL.1.1.2.1
  have hF := hL.1.1.2.2.1
  have n65 := hL.1.1.1.2.2.2
  obtain ⟨fp, f2, f3⟩ := fl_ok hB.2.1 hL.2.1 hj.1 hj.2 hk
  obtain ⟨p, gp⟩ : ∃ p : Int, p = pl j := ⟨_, rfl⟩
  rw [← gp] at fp f2 f3 hk hfd hv hsz k
  obtain ⟨g, hg⟩ : ∃ g : Int → Int, g = lf IR := ⟨_, rfl⟩
  rw [← hg] at fp f2 f3 hk hfd hv hsz k
  have fxr := fxT_r (le g p 2)
  obtain ⟨⟨z0, z1⟩, ff, fa, fbk⟩ := fp
  have eb : bkC B g p = bcN B (fSz g p) (fFr g p) := rfl
  rw [← eb] at fa fbk
  have b0 := bk_r (g := g) (p := p) hB.2.1 z0
  obtain ⟨hfrag, hbw⟩ := hfd
  have BW := bw_at (f := f) (g := g) (B := B) (A := A) (p := p) (bkC B g p).toNat 0 hbw
  obtain ⟨Dq, hDq⟩ : ∃ Dq : Int → Prop, Dq = fun y => ctF f g fg B p y % 256 = M 181 (M 179 x + y) % 256 := ⟨_, rfl⟩
  obtain ⟨Qt, hQt⟩ : ∃ Qt : Int → Prop, Qt = fun t => ∀ y : Int, 0 ≤ y → y < t → Dq y := ⟨_, rfl⟩
  have QN : ∀ t : Int, 0 ≤ t → (Qt (t + 1) ↔ Qt t ∧ Dq t) := fun t t0 => by
    rw [hQt]
    constructor
    · intro q
      exact ⟨fun y y0 y1 => q y y0 (by omega), q t t0 (by omega)⟩
    · intro q y y0 y1
      by_cases e : y = t
      · rw [e]
        exact q.2
      · exact q.1 y y0 (by omega)
  have kk : ∀ (M2 : FM) (z : Int), rbF M M2 → (z = 1 ∧ Qt (M 180 x) ∨ z = 0 ∧ ¬ Qt (M 180 x)) → K (some (ti z)) (sh, M2, nx, zl) := by
    rw [hQt, hDq]
    exact k
  obtain ⟨sz, gsz⟩ : ∃ sz : Int, sz = M 180 x := ⟨_, rfl⟩
  rw [← gsz] at kk hsz hat
  have D0 := dv0 (x := sz) (B := B) (by omega) hat.2.1
  have D1 : 0 ≤ sz / B * B := Int.mul_nonneg (by omega) (by omega)
  have O8 : ∀ M1 : FM, rbF M M1 → s8M M1 IR IS LR LS B ids F n pl h f fg s A ∧ ofV M1 g B p ∧ M1 168 93 = B ∧ M1 181 = M 181 ∧ M1 179 = M 179 := fun M1 f1 => by
    refine ⟨s8M_x h8 (fun c hc => f1.1 c (by omega) (by omega) (by omega)) (fun i hi => f1.2 i (by omega)), ?_, by rw [f1.2 93 (by omega)]; exact hB.1, f1.1 181 (by omega) (by omega) (by omega), f1.1 179 (by omega) (by omega) (by omega)⟩
    unfold ofV at *
    rw [f1.2 124 (by omega), f1.2 125 (by omega), f1.2 126 (by omega), f1.2 127 (by omega), f1.2 128 (by omega), f1.2 129 (by omega)]
    exact hv
  -- the end
  have B237 : ∀ (M1 : FM) (e : Int) (l2 : Int) (y5 y6 y7 y8 : Option TV), rbF M M1 → (e = 1 ∧ Qt sz ∨ e = 0 ∧ ¬ Qt sz) → b381_237 (d + 6) (fW (d + 6) kd381 K) K [some (fx 168), some (ti x), some (tj l2), none, some (ti e), y5, y6, y7, y8] [] (sh, M1, nx, zl) := by
    intro M1 e l2 y5 y6 y7 y8 f1 he
    exact ⟨by omega, kk M1 e f1 he⟩
  -- the fragment
  have FRAG : ∀ (M1 : FM) (o : List Int) (rest base l2 : Int) (y6 : Int) (y8 : Option TV), rbF M M1 → sl (M1 264) 0 o.length = o → rest = sz % B → base = sz - rest → fOf g p + rest ≤ o.length → o.length ≤ 65536 → (∀ i : Int, 0 ≤ i → i < rest → ctF f g fg B p (base + i) = lf o (fOf g p + i)) → ∀ (N i : Nat) (e : Int), (rest - i).toNat < N → (i : Int) ≤ rest → (e = 1 ∧ Qt (base + i) ∨ e = 0 ∧ ¬ Qt (base + i)) → fm_X (d + 6) kd381 173 [some (fx 168), some (ti x), some (tj l2), none, some (ti e), some (ti rest), some (ti y6), some (ti i), y8] [] (sh, M1, nx, zl) K := by
    intro M1 o rest base l2 y6 y8 f1 ho hr hb h1 h2 hct N
    have fof := le_nn g 4 (p + 24)
    have fof2 := le_nn g 4 (p + 48)
    have of0 : 0 ≤ fOf g p := by
      unfold fOf
      split <;> omega
    induction N with
    | zero =>
      intro i e hN
      omega
    | succ N ih =>
      intro i e hN hi he
      obtain ⟨s1, v1, e93, e181, e179⟩ := O8 M1 f1
      refine s381_173 (d + 6) K _ _ _ ?_
      refine ⟨by omega, fun w => ?_, fun w => ?_⟩
      · have ei : (i : Int) = rest := by omega
        refine B237 M1 e l2 _ _ _ _ f1 ?_
        rw [ei, show base + rest = sz by omega] at he
        exact he
      · have qn := QN (base + i) (by omega)
        have NX : ∀ e2 : Int, (e2 = 1 ∧ Qt (base + i + 1) ∨ e2 = 0 ∧ ¬ Qt (base + i + 1)) → b381_229 (d + 6) (fW (d + 6) kd381 K) K [some (fx 168), some (ti x), some (tj l2), none, some (ti e), some (ti rest), some (ti y6), some (ti i), y8] [ti e2] (sh, M1, nx, zl) := by
          intro e2 he2
          have F := ih (i + 1) e2 (by omega) (by omega) (by rw [show base + ((i + 1 : Nat) : Int) = base + i + 1 by omega]; exact he2)
          rw [show ((i + 1 : Nat) : Int) = (i : Int) + 1 by omega] at F
          exact F
        refine ⟨by omega, fun w2 => NX 0 (Or.inr ⟨rfl, fun q => ?_⟩), fun w2 => ?_⟩
        · rcases he with ⟨q1, -⟩ | ⟨-, q2⟩
          · omega
          · exact q2 (qn.1 q).1
        have hq : Qt (base + i) := by
          rcases he with ⟨-, q⟩ | ⟨q1, -⟩
          · exact q
          · omega
        have v127 : M1 168 127 = fOf g p := v1.1.2.2.2
        have v124 : M1 168 124 = sz := by rw [← hsz]; exact v1.1.1
        have v179 : M1 179 x = M 179 x := by rw [e179]
        refine ⟨by omega, ?_⟩
        refine ⟨by omega, ?_⟩
        refine ⟨by omega, ?_⟩
        have go := sl_get (f := M1 264) o.length 0 (fOf g p + i).toNat (by omega)
        rw [ho, Int.zero_add, show (((fOf g p + i).toNat : Nat) : Int) = fOf g p + i by omega] at go
        have lfo : lf o (fOf g p + i) = M1 264 (fOf g p + i) % 256 := by
          unfold lf
          rw [go]
          rfl
        have ct := hct i (by omega) (by omega)
        have dd : Dq (base + i) ↔ M1 264 (M1 168 127 + i) % 256 = M1 181 (M1 179 x + M1 168 124 - rest + i) % 256 := by
          rw [hDq, e181, v179, v124, v127]
          show ctF f g fg B p (base + i) % 256 = M 181 (M 179 x + (base + i)) % 256 ↔ _
          rw [ct, lfo, show M 179 x + (base + i) = M 179 x + sz - rest + i by omega, Int.emod_emod]
        refine ⟨by omega, fun w3 => NX 0 (Or.inr ⟨rfl, fun q => w3 ?_⟩), fun w3 => NX 1 (Or.inl ⟨rfl, qn.2 ⟨hq, dd.2 ?_⟩⟩)⟩
        · have := dd.1 (qn.1 q).2
          omega
        · omega
  -- the blocks
  have OUT : ∀ (N i : Nat) (M1 : FM) (e : Int) (y6 y7 y8 : Option TV), (bkC B g p - i).toNat < N → (i : Int) ≤ bkC B g p → rbF M M1 → (e = 1 ∧ Qt (min ((i : Int) * B) sz) ∨ e = 0 ∧ ¬ Qt (min ((i : Int) * B) sz)) → fm_X (d + 6) kd381 11 [some (fx 168), some (ti x), some (tj (pbN g p i)), none, some (ti e), some (ti i), y6, y7, y8] [] (sh, M1, nx, zl) K := by
    intro N
    induction N with
    | zero =>
      intro i M1 e y6 y7 y8 hN
      omega
    | succ N ih =>
      intro i M1 e y6 y7 y8 hN hi f1 he
      obtain ⟨s1, v1, e93, e181, e179⟩ := O8 M1 f1
      have v128 : M1 168 128 = bkC B g p := v1.2.1
      refine s381_11 (d + 6) K _ _ _ ?_
      refine ⟨by omega, fun w => ?_, fun w => ?_⟩
      · have ei : (i : Int) = bkC B g p := by omega
        have v126 : M1 168 126 = fFr g p := v1.1.2.2.1
        have v124 : M1 168 124 = sz := by rw [← hsz]; exact v1.1.1
        have fr0 : 0 ≤ fFr g p ∧ fFr g p < 4294967296 := by
          unfold fFr
          have q1 := le_nn g 4 (p + 20)
          have q2 := le_lt4 g (p + 20)
          have q3 := le_nn g 4 (p + 44)
          have q4 := le_lt4 g (p + 44)
          split <;> omega
        refine ⟨by omega, fun w2 => ?_, fun w2 => ?_⟩
        · refine B237 M1 e _ _ _ _ _ f1 ?_
          have em : min ((i : Int) * B) sz = sz := by
            rw [ei, eb]
            unfold bcN
            rw [hsz]
            by_cases c : fFr g p = 4294967295 ∧ 0 < sz % B
            · rw [if_pos c, Int.add_mul, Int.one_mul]
              omega
            · rw [if_neg c, Int.add_zero]
              have : ¬ 0 < sz % B := fun q => c ⟨by omega, q⟩
              omega
          rw [em] at he
          exact he
        · have nf : fFr g p ≠ 4294967295 := by omega
          obtain ⟨f4, f5, f6⟩ := ff nf
          have hfo := hfrag nf
          have ek : bkC B g p = sz / B := by
            rw [eb]
            unfold bcN
            rw [if_neg (fun q => nf q.1), hsz]
            omega
          rw [hsz] at f5 f6 hfo
          refine ⟨by omega, ?_⟩
          refine ⟨by omega, ?_⟩
          refine readFragment_Y (d := d) s1 (i := M1 168 126) (by omega) (fun M2 F2 hb hrr => ?_)
          rw [v126] at hb hrr
          have fsr : 0 ≤ fsF f B fg (fFr g p) := hfs _ fr0.1 f4
          obtain ⟨o, ho⟩ : ∃ o, bdS f B (s64 (le fg (16 * fFr g p) 8)) (le fg (16 * fFr g p + 8) 4) = some o := by
            cases hbd : bdS f B (s64 (le fg (16 * fFr g p) 8)) (le fg (16 * fFr g p + 8) 4) with
            | none =>
              have : fsF f B fg (fFr g p) = rvO (bdS f B (s64 (le fg (16 * fFr g p) 8)) (le fg (16 * fFr g p + 8) 4)) := rfl
              rw [hbd] at this
              have h2 : rvO (none : Option (List Int)) = -1 := rfl
              omega
            | some o => exact ⟨o, rfl⟩
          have eo : fsF f B fg (fFr g p) = o.length := by
            show rvO (bdS f B (s64 (le fg (16 * fFr g p) 8)) (le fg (16 * fFr g p + 8) 4)) = o.length
            rw [ho]
            rfl
          have em : min ((i : Int) * B) sz = sz - sz % B := by
            rw [ei, ek]
            omega
          rw [em] at he
          have F := FRAG M2 o (sz % B) (sz - sz % B) (pbN g p i) (fsF f B fg (fFr g p)) y8 (rbF_t f1 F2) (hb o ho) rfl rfl (by omega) (by omega) (fun q q0 q1 => ?_) ((sz % B - (0 : Nat)).toNat + 1) 0 e (by omega) (by omega) (by rw [show sz - sz % B + ((0 : Nat) : Int) = sz - sz % B by omega]; exact he)
          · have e1 : M1 168 124 % M1 168 93 = sz % B := by rw [v124, e93]
            rw [← e1] at F
            rw [v126]
            exact F
          · have dv := dvq (x := sz - sz % B + q) (k := sz / B) (B := B) (by omega) (by omega) (by omega)
            unfold ctF
            rw [dv.1, if_neg (by omega), ho, dv.2]
            show lf o (fOf g p + _) = lf o (fOf g p + q)
            rw [show sz - sz % B + q - sz / B * B = q by omega]
      · have ilt : (i : Int) < bkC B g p := by omega
        have bm := bc_mul hB.2.1 z0 (Int.natCast_nonneg i) ilt
        have br := bb_r (g := g) (p := p) hB.2.1 z0 (Int.natCast_nonneg i) ilt
        have ebb : bbN B g p i = min B (fSz g p - (i : Int) * B) := rfl
        obtain ⟨kB, hkB⟩ : ∃ kB : Int, kB = (i : Int) * B := ⟨_, rfl⟩
        rw [← hkB, hsz] at bm ebb
        rw [← hkB] at he
        have kb0 : 0 ≤ kB := by
          rw [hkB]
          exact Int.mul_nonneg (by omega) (by omega)
        have bk := fbk i (by omega) ilt
        have eblN : blN g p i = le g (p + fxT (le g p 2) + 4 * i) 4 := rfl
        obtain ⟨x1, x2, x3⟩ := bk
        rw [← eblN] at x1 x2 x3
        have x0 := le_nn g 4 (p + fxT (le g p 2) + 4 * i)
        rw [← eblN] at x0
        rw [hg] at v1
        have fx1 : fxT (le (lf IR) p 2) = fxT (le g p 2) := by rw [hg]
        refine blockOf_Y (d := d + 3) (p := p) s1.1 v1 (by omega) (by omega) (fun _ => ?_)
        rw [← hg] at v1 ⊢
        have emi : min kB sz = kB := by omega
        rw [emi] at he
        -- inside a block
        have INN : ∀ (M2 : FM) (bytes : Int → Int) (y7 : Int), rbF M M2 → (blN g p i ≠ 0 → ∀ q : Int, 0 ≤ q → q < bbN B g p i → M2 264 q % 256 = bytes q) → (∀ q : Int, 0 ≤ q → q < bbN B g p i → ctF f g fg B p (kB + q) % 256 = if blN g p i = 0 then 0 else bytes q) → ∀ (N2 q : Nat) (e2 : Int), (bbN B g p i - q).toNat < N2 → (q : Int) ≤ bbN B g p i → (e2 = 1 ∧ Qt (kB + q) ∨ e2 = 0 ∧ ¬ Qt (kB + q)) → fm_X (d + 6) kd381 49 [some (fx 168), some (ti x), some (tj (pbN g p i)), none, some (ti e2), some (ti i), some (ti (blN g p i)), some (ti y7), some (ti q)] [] (sh, M2, nx, zl) K := by
          intro M2 bytes y7 f2' hby hct N2
          induction N2 with
          | zero =>
            intro q e2 hN2
            omega
          | succ N2 ih2 =>
            intro q e2 hN2 hq he2
            obtain ⟨s2, v2, e93', e181', e179'⟩ := O8 M2 f2'
            refine s381_49 (d + 6) K _ _ _ ?_
            rw [hg] at v2 z0 z1 ilt
            refine bytesOf_Y (d := d + 5) (p := p) ⟨e93', hB.2.1, hB.2.2⟩ v2 ⟨z0, z1⟩ (by omega) ilt (fun _ => ?_)
            rw [← hg] at v2 z0 z1 ilt ⊢
            refine ⟨by omega, fun w2 => ?_, fun w2 => ?_⟩
            · have eq : (q : Int) = bbN B g p i := by omega
              refine ⟨by omega, ?_⟩
              have F := ih (i + 1) M2 e2 (some (ti (blN g p i))) (some (ti y7)) (some (ti q)) (by omega) (by omega) f2' ?_
              · have ep : pbN g p (i + 1) = pbN g p i + blN g p i % 16777216 := rfl
                rw [ep] at F
                exact F
              · have : min (((i + 1 : Nat) : Int) * B) sz = kB + q := by
                  rw [show ((i + 1 : Nat) : Int) = (i : Int) + 1 by omega, Int.add_mul, Int.one_mul, ← hkB]
                  omega
                rw [this]
                exact he2
            · have qn := QN (kB + q) (by omega)
              have NX : ∀ e3 : Int, (e3 = 1 ∧ Qt (kB + q + 1) ∨ e3 = 0 ∧ ¬ Qt (kB + q + 1)) → b381_111 (d + 6) (fW (d + 6) kd381 K) K [some (fx 168), some (ti x), some (tj (pbN g p i)), none, some (ti e2), some (ti i), some (ti (blN g p i)), some (ti y7), some (ti q)] [ti e3] (sh, M2, nx, zl) := by
                intro e3 he3
                have F := ih2 (q + 1) e3 (by omega) (by omega) (by rw [show kB + ((q + 1 : Nat) : Int) = kB + q + 1 by omega]; exact he3)
                rw [show ((q + 1 : Nat) : Int) = (q : Int) + 1 by omega] at F
                exact F
              refine ⟨by omega, fun w3 => NX 0 (Or.inr ⟨rfl, fun qq => ?_⟩), fun w3 => ?_⟩
              · rcases he2 with ⟨q1, -⟩ | ⟨-, q2⟩
                · omega
                · exact q2 (qn.1 qq).1
              have hq2 : Qt (kB + q) := by
                rcases he2 with ⟨-, qq⟩ | ⟨q1, -⟩
                · exact qq
                · omega
              have ct := hct q (by omega) (by omega)
              have ep : (i : Int) * M2 168 93 = kB := by rw [e93', hkB]
              have v179 : M2 179 x = M 179 x := by rw [e179']
              have B81 : ∀ y : Int, (-128 ≤ y ∧ y ≤ 127) → y % 256 = ctF f g fg B p (kB + q) % 256 → b381_81 (d + 6) (fW (d + 6) kd381 K) K [some (fx 168), some (ti x), some (tj (pbN g p i)), none, some (ti e2), some (ti i), some (ti (blN g p i)), some (ti y7), some (ti q)] [ti y] (sh, M2, nx, zl) := by
                intro y hy hy2
                have dd : Dq (kB + q) ↔ y % 256 = M2 181 (M2 179 x + (i : Int) * M2 168 93 + q) % 256 := by
                  rw [hDq, ep, e181', v179, hy2]
                  show ctF f g fg B p (kB + q) % 256 = M 181 (M 179 x + (kB + q)) % 256 ↔ _
                  rw [show M 179 x + (kB + q) = M 179 x + kB + q by omega]
                refine ⟨by omega, ?_⟩
                refine ⟨by omega, ?_⟩
                refine ⟨by omega, fun w4 => NX 0 (Or.inr ⟨rfl, fun qq => w4 ?_⟩), fun w4 => NX 1 (Or.inl ⟨rfl, qn.2 ⟨hq2, dd.2 ?_⟩⟩)⟩
                · have := dd.1 (qn.1 qq).2
                  omega
                · omega
              refine ⟨by omega, fun w4 => ?_, fun w4 => ?_⟩
              · have hb := hby w4 q (by omega) (by omega)
                rw [if_neg w4] at ct
                refine ⟨by omega, ?_⟩
                refine B81 _ (by omega) ?_
                rw [ct, ← hb]
                omega
              · rw [if_pos w4] at ct
                exact B81 0 (by omega) (by rw [ct]; rfl)
        have CT : ∀ q : Int, 0 ≤ q → q < bbN B g p i → ctF f g fg B p (kB + q) = if blN g p i = 0 then 0 else lf (oGt (bdS f B (pbN g p i) (blN g p i))) q := fun q q0 q1 => by
          have dv := dvq (x := kB + q) (k := (i : Int)) (B := B) (by omega) (by omega) (by omega)
          unfold ctF
          rw [dv.1, if_pos ilt, dv.2, Int.toNat_natCast, show kB + q - (i : Int) * B = q by omega]
        by_cases c0 : blN g p i = 0
        · refine ⟨by omega, fun w2 => absurd c0 w2, fun _ => ?_⟩
          refine INN M1 (fun _ => 0) _ f1 (fun q => absurd c0 q) (fun q q0 q1 => ?_) ((bbN B g p i - (0 : Nat)).toNat + 1) 0 e (by omega) (by omega) (by rw [show kB + ((0 : Nat) : Int) = kB by omega]; exact he)
          rw [CT q q0 q1, if_pos c0, if_pos c0]
          rfl
        · refine ⟨by omega, fun _ => ?_, fun w2 => absurd w2 c0⟩
          obtain ⟨p1, p2, p3⟩ := BW i (Nat.zero_le _) (by omega) c0
          refine readBlock_Y (d := d + 1) s1 (by omega) x2 (by omega) (fun M2 F2 hb hrr => ?_)
          obtain ⟨o, ho⟩ : ∃ o, bdS f B (pbN g p i) (blN g p i) = some o := by
            cases hbd : bdS f B (pbN g p i) (blN g p i) with
            | none =>
              rw [hbd] at p3
              have h2 : rvO (none : Option (List Int)) = -1 := rfl
              omega
            | some o => exact ⟨o, rfl⟩
          have eo : (o.length : Int) = bbN B g p i := by
            rw [ho] at p3
            exact p3
          have hb2 := hb o ho
          refine INN M2 (fun q => lf o q) _ (rbF_t f1 F2) (fun _ q q0 q1 => ?_) (fun q q0 q1 => ?_) ((bbN B g p i - (0 : Nat)).toNat + 1) 0 e (by omega) (by omega) (by rw [show kB + ((0 : Nat) : Int) = kB by omega]; exact he)
          · have go := sl_get (f := M2 264) o.length 0 q.toNat (by omega)
            rw [hb2, Int.zero_add, show ((q.toNat : Nat) : Int) = q by omega] at go
            show M2 264 q % 256 = lf o q
            unfold lf
            rw [go]
            rfl
          · have go := sl_get (f := M2 264) o.length 0 q.toNat (by omega)
            rw [hb2, Int.zero_add, show ((q.toNat : Nat) : Int) = q by omega] at go
            have lfo : lf o q = M2 264 q % 256 := by
              unfold lf
              rw [go]
              rfl
            rw [CT q q0 q1, if_neg c0, if_neg c0, ho]
            show lf o q % 256 = lf o q
            rw [lfo]
            omega
  refine m381 [fx 168, ti x] ?_
  have v125 : M 168 125 = pbN g p 0 := hv.1.2.1
  have F := OUT ((bkC B g p - (0 : Nat)).toNat + 1) 0 M 1 none none none (by omega) (by omega) ⟨fun _ _ _ _ => rfl, fun _ _ => rfl⟩ (Or.inl ⟨rfl, ?_⟩)
  · rw [← v125] at F
    exact F
  · rw [hQt]
    intro y y0 y1
    have : min (((0 : Nat) : Int) * B) sz ≤ 0 := by
      rw [show ((0 : Nat) : Int) * B = 0 by rw [show ((0 : Nat) : Int) = 0 from rfl, Int.zero_mul]]
      omega
    omega
end MBYTES
