/-! MOUNTING: the fault as one number, alike for images alike before their size -/
section CG
variable {f g : Int → Int} {s : Int}
theorem agr_sym (h : agr f g s) : agr g f s := fun i h0 h1 => (h i h0 h1).symm
theorem pcG_in {m : Int} {k : Nat} {p : Int} (h : pcG f m k p) (hp : p < m) : ∃ j : Nat, (0 ≤ p ∧ p + 2 + le f p 2 % 32768 ≤ m ∧ 1 ≤ le f p 2 % 32768) ∧ pcG f m j (p + 2 + le f p 2 % 32768) := by
  cases k with
  | zero => cases h
  | succ j =>
    rcases h with z | ⟨z1, z2, z3⟩
    · omega
    · refine ⟨j, ?_⟩
      by_cases c : p + 2 ≤ m ∧ 1 ≤ le f p 2 % 32768 ∧ le f p 2 % 32768 ≤ 8192 ∧ p + 2 + le f p 2 % 32768 ≤ m
      · have e : pE f p m = p + 2 + le f p 2 % 32768 := if_pos c
        rw [e] at z3
        exact ⟨⟨z1, c.2.2.2, c.2.1⟩, z3⟩
      · have e : pE f p m = -1 := if_neg c
        rw [e] at z3
        cases j with
        | zero => cases z3
        | succ j =>
          rcases z3 with y | y
          · omega
          · omega
theorem pbS_cg (h : agr f g s) {p : Int} (h0 : 0 ≤ p) (h1 : p + 2 + le f p 2 % 32768 ≤ s) : pbS f p = pbS g p := by
  have l := le_nn f 2 p
  have e : le f p 2 = le g p 2 := le_cg h h0 2 (by omega)
  have e2 : sl f (p + 2) (le g p 2 % 32768).toNat = sl g (p + 2) (le g p 2 % 32768).toNat := sl_agr h (by omega) (by omega)
  have e3 : unS f (p + 2) (le g p 2 % 32768) 8192 = unS g (p + 2) (le g p 2 % 32768) 8192 := unS_cg h (by omega) (by omega)
  unfold pbS
  rw [e, e2, e3]
theorem rdG_cg (h : agr f g s) {a m : Int} {cap : Nat} (hm : m ≤ s) : ∀ (k j : Nat) (p : Int) (R S : List Int), 0 ≤ p → pcG f m j p → rdG f a m cap k p R S = rdG g a m cap k p R S
  | 0, _, _, _, _, _, _ => rfl
  | k + 1, j, p, R, S, h0, hp => by
    have e1 : rdG f a m cap (k + 1) p R S = if m ≤ p then some (R, S) else if R.length ≠ 8192 * S.length ∨ cap ≤ S.length then none else match pbS f p with
      | none => none
      | some o => rdG f a m cap k (p + 2 + le f p 2 % 32768) (R ++ o) (S ++ [p - a]) := rfl
    have e2 : rdG g a m cap (k + 1) p R S = if m ≤ p then some (R, S) else if R.length ≠ 8192 * S.length ∨ cap ≤ S.length then none else match pbS g p with
      | none => none
      | some o => rdG g a m cap k (p + 2 + le g p 2 % 32768) (R ++ o) (S ++ [p - a]) := rfl
    rw [e1, e2]
    by_cases c : m ≤ p
    · rw [if_pos c, if_pos c]
    · rw [if_neg c, if_neg c]
      obtain ⟨j2, z1, z2⟩ := pcG_in hp (by omega)
      have l := le_nn f 2 p
      rw [← pbS_cg h h0 (by omega), ← le_cg h h0 2 (by omega)]
      by_cases c2 : R.length ≠ 8192 * S.length ∨ cap ≤ S.length
      · rw [if_pos c2, if_pos c2]
      · rw [if_neg c2, if_neg c2]
        cases hb : pbS f p with
        | none => rfl
        | some o => exact rdG_cg h hm k j2 _ _ _ (by omega) z2
theorem rdS_cg (h : agr f g s) {a m : Int} {cap : Nat} (hm : m ≤ s) (h0 : 0 ≤ a) (hp : pcs f a m) : rdS f a m cap = rdS g a m cap := rdG_cg h hm _ _ a [] [] h0 hp
theorem su_le (h : agr f g s) (hs : 96 ≤ s) : (le f 0 4 = le g 0 4 ∧ le f 20 2 = le g 20 2 ∧ le f 28 4 = le g 28 4 ∧ le f 56 8 = le g 56 8 ∧ le f 24 2 = le g 24 2 ∧ le f 22 2 = le g 22 2) ∧ (le f 12 4 = le g 12 4 ∧ le f 4 4 = le g 4 4 ∧ le f 16 4 = le g 16 4 ∧ le f 26 2 = le g 26 2) ∧ (le f 80 8 = le g 80 8 ∧ le f 64 8 = le g 64 8 ∧ le f 72 8 = le g 72 8 ∧ le f 40 8 = le g 40 8) ∧ (le f 32 8 = le g 32 8 ∧ le f 48 8 = le g 48 8 ∧ le f 88 8 = le g 88 8) :=
  ⟨⟨le_cg h (by omega) 4 (by omega), le_cg h (by omega) 2 (by omega), le_cg h (by omega) 4 (by omega), le_cg h (by omega) 8 (by omega), le_cg h (by omega) 2 (by omega), le_cg h (by omega) 2 (by omega)⟩, ⟨le_cg h (by omega) 4 (by omega), le_cg h (by omega) 4 (by omega), le_cg h (by omega) 4 (by omega), le_cg h (by omega) 2 (by omega)⟩, ⟨le_cg h (by omega) 8 (by omega), le_cg h (by omega) 8 (by omega), le_cg h (by omega) 8 (by omega), le_cg h (by omega) 8 (by omega)⟩, ⟨le_cg h (by omega) 8 (by omega), le_cg h (by omega) 8 (by omega), le_cg h (by omega) 8 (by omega)⟩⟩
theorem suP_mp (h : agr f g s) (q : suP f s) : suP g s := by
  obtain ⟨⟨a1, a2, a3, a4, a5, a6⟩, ⟨b1, b2, b3, b4⟩, ⟨c1, c2, c3, c4⟩, -⟩ := su_le h q.1
  unfold suP at q ⊢
  rw [a1, a2, a3, a4, a5, a6, b1, b2, b3, b4, c1, c2, c3, c4] at q
  exact q
theorem suP_cg (h : agr f g s) : suP f s ↔ suP g s := ⟨suP_mp h, suP_mp (agr_sym h)⟩
theorem pl_eq (h : agr f g s) (hs : 96 ≤ s) : (plNF f = plNF g ∧ plNX f = plNX g ∧ plNI f = plNI g) ∧ (plF f = plF g ∧ plX f = plX g ∧ plI f = plI g ∧ plU f = plU g) ∧ plA f = plA g := by
  obtain ⟨-, ⟨b1, b2, b3, b4⟩, ⟨c1, c2, c3, c4⟩, ⟨d1, d2, d3⟩⟩ := su_le h hs
  unfold plNF plNX plNI plA plF plX plI plU
  rw [b2, b3, b4, c1, c4, d2, d3]
  exact ⟨⟨rfl, rfl, rfl⟩, ⟨rfl, rfl, rfl, rfl⟩, rfl⟩
theorem tbP_mp (h : agr f g s) {u t : Int} {n : Nat} {a : Int} (hu : u ≤ s) (ha : 0 ≤ a) (q : tbP f u t n a) : tbP g u t n a := by
  obtain ⟨q1, q2, q3⟩ := q
  exact ⟨q1, q2, (tbG_cg h q1 n 0 a (by omega) (by omega) ha).1 q3⟩
theorem pl_B (h : agr f g s) (hs : 96 ≤ s) (hu : plU f ≤ s) (hA : 0 ≤ plA f ∧ plA f ≤ plU f - 8) : plB f = plB g ∧ plP1 f = plP1 g ∧ plP2 f = plP2 g := by
  obtain ⟨⟨n1, n2, n3⟩, ⟨p1, p2, p3, p4⟩, p5⟩ := pl_eq h hs
  obtain ⟨-, ⟨b1, b2, b3, b4⟩, -, -⟩ := su_le h hs
  have eB : plB f = plB g := by
    unfold plB
    rw [← p5, le_cg h hA.1 8 (by omega)]
  have e1 : plP1 f = plP1 g := by
    unfold plP1
    rw [b3, p1, n1, eB]
  refine ⟨eB, e1, ?_⟩
  unfold plP2
  rw [p2, n2, e1]
theorem plT_mp (h : agr f g s) (hs : 96 ≤ s) (h7 : 0 ≤ s64 (le f 72 8)) (hu : plU f ≤ s) (q : plT f) : plT g := by
  obtain ⟨⟨n1, n2, n3⟩, ⟨p1, p2, p3, p4⟩, p5⟩ := pl_eq h hs
  obtain ⟨-, ⟨b1, b2, b3, b4⟩, ⟨c1, c2, c3, c4⟩, -⟩ := su_le h hs
  obtain ⟨q1, q2, q3, q4, q5⟩ := q
  obtain ⟨e1, e2, e3⟩ := pl_B h hs hu ⟨q1.1, q1.2.1⟩
  have b0 : 0 ≤ plB f := by omega
  have r1 : 0 ≤ plP1 f := by
    unfold plP1
    split
    · rename_i c
      have := (q2 c).1
      omega
    · exact b0
  have r2 : 0 ≤ plP2 f := by
    unfold plP2
    split
    · rename_i c
      have := (q3 c).1
      omega
    · exact r1
  have w2 : 0 < le f 16 4 → tbP g (plU f) (plF f) (plNF f) (plB f) := fun z => tbP_mp h hu b0 (q2 z)
  have w3 : plX f ≠ -1 → tbP g (plU f) (plX f) (plNX f) (plP1 f) := fun z => tbP_mp h hu r1 (q3 z)
  have w4 : tbP g (plU f) (plI f) (plNI f) (plP2 f) := tbP_mp h hu r2 q4
  rw [b3, p4, p1, n1, e1] at w2
  rw [p2, p4, n2, e2] at w3
  rw [p4, p3, n3, e3] at w4
  rw [p5, p4, c3, e1] at q1
  rw [p3, n3, p4] at q5
  exact ⟨q1, w2, w3, w4, q5⟩
theorem plP_mp (h : agr f g s) (hsu : suP f s) (q : plP f) : plP g := by
  have s0 := hsu.1
  obtain ⟨t1, t2, t3, t4⟩ := hsu.2.2.2.2.2
  have hu : plU f ≤ s := t4
  obtain ⟨q1, q2, q3⟩ := q
  obtain ⟨-, -, ⟨c1, c2, c3, c4⟩, -⟩ := su_le h s0
  have hA := q1.1
  obtain ⟨e1, -, -⟩ := pl_B h s0 hu ⟨hA.1, hA.2.1⟩
  have w2 := (pcG_cg h (show s64 (le f 72 8) ≤ s by omega) _ _).1 q2
  have w3 := (pcG_cg h (show plB f ≤ s by omega) _ _).1 q3
  refine ⟨plT_mp h s0 (by omega) hu q1, ?_, ?_⟩
  · rw [← c2, ← c3]
    exact w2
  · rw [← c3, ← e1]
    exact w3
theorem plP_cg (h : agr f g s) (hsu : suP f s) : plP f ↔ plP g := ⟨plP_mp h hsu, plP_mp (agr_sym h) (suP_mp h hsu)⟩
end CG
/-- the rows, each as it is read or nothing -/
noncomputable def qI (f : Int → Int) : Option (List Int × List Int) := rdS f (s64 (le f 64 8)) (s64 (le f 72 8)) 8
noncomputable def qL (f : Int → Int) : Option (List Int × List Int) := rdS f (s64 (le f 72 8)) (plB f) 8
noncomputable def qF (f : Int → Int) : Option (List Int × List Int) := if 0 < le f 16 4 then rdS f (bgn f (plF f)) (plF f) 8 else none
noncomputable def qX (f : Int → Int) : Option (List Int × List Int) := if plX f ≠ -1 then rdS f (bgn f (plX f)) (plX f) 4 else none
noncomputable def qD (f : Int → Int) : Option (List Int × List Int) := rdS f (bgn f (plI f)) (plI f) 2
def rwR (o : Option (List Int × List Int)) : List Int := match o with
  | none => []
  | some q => q.1
def rwS (o : Option (List Int × List Int)) : List Int := match o with
  | none => []
  | some q => q.2
def rwQ (f : Int → Int) : Prop := rwP f (rwR (qI f)) (rwS (qI f)) (rwR (qL f)) (rwS (qL f)) (rwR (qF f)) (rwS (qF f)) (rwR (qX f)) (rwS (qX f)) (rwR (qD f)) (rwS (qD f))
/-- lists of a rwP are those -/
theorem rw_is {f : Int → Int} {IR IS LR LS FR FS XR XS DR DS : List Int} (h : rwP f IR IS LR LS FR FS XR XS DR DS) : (rwR (qI f) = IR ∧ rwS (qI f) = IS) ∧ (rwR (qL f) = LR ∧ rwS (qL f) = LS) ∧ (0 < le f 16 4 → rwR (qF f) = FR ∧ rwS (qF f) = FS) ∧ (plX f ≠ -1 → rwR (qX f) = XR ∧ rwS (qX f) = XS) ∧ (rwR (qD f) = DR ∧ rwS (qD f) = DS) := by
  obtain ⟨⟨h1, h2⟩, h3, h4, h5, -⟩ := h
  refine ⟨?_, ?_, fun c => ?_, fun c => ?_, ?_⟩
  · have e : qI f = some (IR, IS) := h1
    rw [e]
    exact ⟨rfl, rfl⟩
  · have e : qL f = some (LR, LS) := h2
    rw [e]
    exact ⟨rfl, rfl⟩
  · have e : qF f = some (FR, FS) := (if_pos c).trans (h3 c).1
    rw [e]
    exact ⟨rfl, rfl⟩
  · have e : qX f = some (XR, XS) := (if_pos c).trans (h4 c).1
    rw [e]
    exact ⟨rfl, rfl⟩
  · have e : qD f = some (DR, DS) := h5
    rw [e]
    exact ⟨rfl, rfl⟩
theorem rwQ_of {f : Int → Int} {IR IS LR LS FR FS XR XS DR DS : List Int} (h : rwP f IR IS LR LS FR FS XR XS DR DS) : rwQ f := by
  obtain ⟨⟨a1, a2⟩, ⟨b1, b2⟩, c, e, ⟨d1, d2⟩⟩ := rw_is h
  obtain ⟨⟨h1, h2⟩, h3, h4, h5, h6⟩ := h
  unfold rwQ
  rw [a1, a2, b1, b2, d1, d2]
  refine ⟨⟨h1, h2⟩, fun z => ?_, fun z => ?_, h5, h6⟩
  · rw [(c z).1, (c z).2]
    exact h3 z
  · rw [(e z).1, (e z).2]
    exact h4 z
theorem rwE_Q {f : Int → Int} : rwE f ↔ rwQ f := by
  constructor
  · rintro ⟨IR, IS, LR, LS, FR, FS, XR, XS, DR, DS, h⟩
    exact rwQ_of h
  · intro h
    exact ⟨_, _, _, _, _, _, _, _, _, _, h⟩
section CG2
variable {f g : Int → Int} {s : Int}
theorem q_cg (h : agr f g s) (hsu : suP f s) (hpl : plP f) : qI f = qI g ∧ qL f = qL g ∧ qF f = qF g ∧ qX f = qX g ∧ qD f = qD g := by
  have s0 := hsu.1
  obtain ⟨t1, t2, t3, t4⟩ := hsu.2.2.2.2.2
  have hu : plU f ≤ s := t4
  obtain ⟨tA, tF, tX, tD⟩ := pl_tabs hsu hpl.1
  obtain ⟨⟨n1, n2, n3⟩, ⟨p1, p2, p3, p4⟩, p5⟩ := pl_eq h s0
  obtain ⟨-, ⟨b1, b2, b3, b4⟩, ⟨c1, c2, c3, c4⟩, -⟩ := su_le h s0
  obtain ⟨e1, -, -⟩ := pl_B h s0 hu ⟨tA.1, by omega⟩
  refine ⟨?_, ?_, ?_, ?_, ?_⟩
  · unfold qI
    rw [rdS_cg h (by omega) (by omega) hpl.2.1, c2, c3]
  · unfold qL
    rw [rdS_cg h (by omega) (by omega) hpl.2.2, c3, e1]
  · unfold qF
    rw [← b3]
    by_cases c : 0 < le f 16 4
    · obtain ⟨x1, x2, x3, x4⟩ := tF c
      have eb : bgn f (plF f) = bgn g (plF g) := by
        unfold bgn
        rw [le_cg h (by omega) 8 (by omega), p1]
      rw [if_pos c, if_pos c, rdS_cg h (by omega) x1 x4, eb, p1]
    · rw [if_neg c, if_neg c]
  · unfold qX
    rw [← p2]
    by_cases c : plX f ≠ -1
    · obtain ⟨x1, x2, x3, x4⟩ := tX c
      have eb : bgn f (plX f) = bgn g (plX f) := by
        unfold bgn
        rw [le_cg h (by omega) 8 (by omega)]
      rw [if_pos c, if_pos c, rdS_cg h (by omega) x1 x4, eb]
    · rw [if_neg c, if_neg c]
  · unfold qD
    obtain ⟨x1, x2, x3, x4⟩ := tD
    have eb : bgn f (plI f) = bgn g (plI g) := by
      unfold bgn
      rw [le_cg h (by omega) 8 (by omega), p3]
    rw [rdS_cg h (by omega) x1 x4, eb, p3]
theorem rwQ_mp (h : agr f g s) (hsu : suP f s) (hpl : plP f) (q : rwQ f) : rwQ g := by
  obtain ⟨e1, e2, e3, e4, e5⟩ := q_cg h hsu hpl
  have s0 := hsu.1
  obtain ⟨-, ⟨b1, b2, b3, b4⟩, -, -⟩ := su_le h s0
  obtain ⟨-, ⟨p1, p2, p3, p4⟩, -⟩ := pl_eq h s0
  obtain ⟨⟨h1, h2⟩, h3, h4, h5, h6⟩ := q
  unfold rwQ
  rw [← e1, ← e2, ← e3, ← e4, ← e5]
  refine ⟨⟨?_, ?_⟩, fun z => ⟨?_, ?_⟩, fun z => ⟨?_, ?_⟩, ?_, ?_⟩
  · exact e1.symm.trans h1
  · exact e2.symm.trans h2
  · have z' : 0 < le f 16 4 := by rw [b3]; exact z
    have y := (h3 z').1
    have y1 : qF f = rdS f (bgn f (plF f)) (plF f) 8 := if_pos z'
    have y2 : qF g = rdS g (bgn g (plF g)) (plF g) 8 := if_pos z
    exact y2.symm.trans (e3.symm.trans (y1.trans y))
  · have z' : 0 < le f 16 4 := by rw [b3]; exact z
    rw [← b3]
    exact (h3 z').2
  · have z' : plX f ≠ -1 := by rw [p2]; exact z
    have y := (h4 z').1
    have y1 : qX f = rdS f (bgn f (plX f)) (plX f) 4 := if_pos z'
    have y2 : qX g = rdS g (bgn g (plX g)) (plX g) 4 := if_pos z
    exact y2.symm.trans (e4.symm.trans (y1.trans y))
  · have z' : plX f ≠ -1 := by rw [p2]; exact z
    rw [← b2]
    exact (h4 z').2
  · exact e5.symm.trans h5
  · rw [← b4]
    exact h6
theorem rwQ_cg (h : agr f g s) (hsu : suP f s) (hpl : plP f) : rwQ f ↔ rwQ g := ⟨rwQ_mp h hsu hpl, rwQ_mp (agr_sym h) (suP_mp h hsu) (plP_mp h hsu hpl)⟩
end CG2
theorem bwP_cg {f g u : Int → Int} {s B A p : Int} (h : agr f g s) (hA : A ≤ s) : ∀ (m : Nat) (i a : Int), bwP f u B A p m i a ↔ bwP g u B A p m i a
  | 0, _, _ => Iff.rfl
  | m + 1, i, a => by
    have ih := bwP_cg (u := u) (B := B) (p := p) h hA m
    show ((blN u p i ≠ 0 → (96 ≤ a ∧ a ≤ A - blN u p i % 16777216 ∧ rvO (bdS f B a (blN u p i)) = bbN B u p i) ∧ bwP f u B A p m (i + 1) (a + blN u p i % 16777216)) ∧ (blN u p i = 0 → bwP f u B A p m (i + 1) a)) ↔ ((blN u p i ≠ 0 → (96 ≤ a ∧ a ≤ A - blN u p i % 16777216 ∧ rvO (bdS g B a (blN u p i)) = bbN B u p i) ∧ bwP g u B A p m (i + 1) (a + blN u p i % 16777216)) ∧ (blN u p i = 0 → bwP g u B A p m (i + 1) a))
    rw [ih, ih]
    by_cases c : 96 ≤ a ∧ a ≤ A - blN u p i % 16777216
    · rw [bdS_cg h (by omega) (by omega)]
    · refine and_congr_left' (imp_congr_right fun _ => and_congr_left' ⟨fun z => absurd ⟨z.1, z.2.1⟩ c, fun z => absurd ⟨z.1, z.2.1⟩ c⟩)
theorem fsF_cg {f g fg : Int → Int} {s B A F k : Int} (h : agr f g s) (hA : A ≤ s) (hF : frP B A fg F) (h0 : 0 ≤ k) (h1 : k < F) : fsF f B fg k = fsF g B fg k := by
  obtain ⟨q1, q2, q3⟩ := hF k h0 h1
  unfold fsF
  rw [bdS_cg h (by omega) (by omega)]
theorem dtP_mp {f g u fg : Int → Int} {s N B ids F A n : Int} {pl h : Int → Int} (ha : agr f g s) (hA : A ≤ s) (hB : 4096 ≤ B) (hv : inV u N B ids F n pl h) (hF : frP B A fg F) (hF0 : 0 ≤ F ∧ F ≤ 4096) (q : dtP f u fg B F A n pl (fun c => kdT (le u (pl c) 2))) : dtP g u fg B F A n pl (fun c => kdT (le u (pl c) 2)) := by
  obtain ⟨q1, q2, q3⟩ := q
  refine ⟨q1, fun k k0 k1 => ?_, fun j j0 j1 jk => ?_⟩
  · rw [← fsF_cg ha hA hF k0 k1]
    exact q2 k k0 k1
  · obtain ⟨w1, w2⟩ := q3 j j0 j1 jk
    refine ⟨fun z => ?_, (bwP_cg ha hA _ _ _).1 w2⟩
    have f6 := (fl_ok hB hv j0 j1 jk).1.2.1 z
    have fr0 : 0 ≤ fFr u (pl j) := by
      have y1 := le_nn u 4 (pl j + 20)
      have y2 := le_nn u 4 (pl j + 44)
      unfold fFr
      split <;> omega
    rw [← fsF_cg ha hA hF fr0 f6.1]
    exact w1 z
noncomputable def inA (o : Option ((Int → Int) × (Int → Int))) : Int → Int := match o with
  | none => fun _ => 0
  | some q => q.1
noncomputable def inB (o : Option ((Int → Int) × (Int → Int))) : Int → Int := match o with
  | none => fun _ => 0
  | some q => q.2
/-- the inodes' places and numbers -/
noncomputable def qN (f : Int → Int) : Option ((Int → Int) × (Int → Int)) := inS (lf (rwR (qI f))) (rwR (qI f)).length (le f 12 4) (le f 26 2) (le f 16 4) (le f 4 4)
noncomputable def plf (f : Int → Int) : Int → Int := inA (qN f)
noncomputable def hf (f : Int → Int) : Int → Int := inB (qN f)
def fq4 (f : Int → Int) : Prop := frP (le f 12 4) (s64 (le f 64 8)) (lf (rwR (qF f))) (le f 16 4)
def fq5 (f : Int → Int) : Prop := inX (lf (rwR (qI f))) (rwR (qI f)).length (le f 12 4) (le f 26 2) (le f 16 4) (le f 4 4) (plX f) (lf (rwR (qX f))) (rwS (qI f)) (plf f) (hf f)
def fq6 (f : Int → Int) : Prop := lsA (rwR (qI f)) (rwS (qI f)) (rwR (qL f)) (rwS (qL f)) (hf f) (plf f) (le f 4 4)
noncomputable def rof (f : Int → Int) : Int := Classical.epsilon (fun r => nbR (rwR (qI f)) (rwS (qI f)) (hf f) (s64 (le f 32 8) % 18446744073709551616 / 65536) (s64 (le f 32 8) % 65536) r)
noncomputable def kdQ (f : Int → Int) : Int → Int := kdF (rwR (qI f)) (plf f)
noncomputable def Efq (f : Int → Int) : Int → List (Int × Int) := lsF (rwR (qI f)) (rwS (qI f)) (rwR (qL f)) (rwS (qL f)) (hf f) (plf f)
noncomputable def tiQ (f : Int → Int) : Int → Int := tiA (lf (rwR (qL f))) (kdQ f) (Efq f) (le f 4 4).toNat
noncomputable def hoQ (f : Int → Int) : Int → Int := ur (hoA (lf (rwR (qL f))) (kdQ f) (Efq f) (le f 4 4).toNat) 0 0
noncomputable def foQ (f : Int → Int) : Int → Int := foA (lf (rwR (qL f))) (kdQ f) (Efq f) (le f 4 4).toNat
noncomputable def eaQ (f : Int → Int) : Int → Int := eaA (kdQ f) (Efq f) (le f 4 4).toNat
def fq7 (f : Int → Int) : Prop := trP (lf (rwR (qI f))) (plf f) (le f 4 4) (rof f) (kdQ f) (tiQ f) (hoQ f) (foQ f)
def fq8 (f : Int → Int) : Prop := dtP f (lf (rwR (qI f))) (lf (rwR (qF f))) (le f 12 4) (le f 16 4) (s64 (le f 64 8)) (le f 4 4) (plf f) (kdQ f)
noncomputable def ftN (f : Int → Int) (s : Int) : Int := cif (suP f s) (cif (plP f) (cif (rwQ f) (cif (fq4 f) (cif (fq5 f) (cif (fq6 f) (cif (fq7 f) (cif (fq8 f) 0 8) 7) 6) 5) 4) 3) 2) 1
theorem cif_cg {α : Type} {P Q : Prop} {a b c : α} (h : P ↔ Q) (h2 : P → a = b) : cif P a c = cif Q b c := by
  by_cases p : P
  · rw [cif_pos p, cif_pos (h.1 p), h2 p]
  · rw [cif_neg p, cif_neg (fun q => p (h.2 q))]
/-- all that f gives is given by g -/
theorem der_cg {f g : Int → Int} {s : Int} (h : agr f g s) (hsu : suP f s) (hpl : plP f) : (qI f = qI g ∧ qL f = qL g ∧ qF f = qF g ∧ qX f = qX g ∧ qD f = qD g) ∧ (le f 12 4 = le g 12 4 ∧ le f 4 4 = le g 4 4 ∧ le f 16 4 = le g 16 4 ∧ le f 26 2 = le g 26 2) ∧ (s64 (le f 64 8) = s64 (le g 64 8) ∧ s64 (le f 32 8) = s64 (le g 32 8) ∧ plX f = plX g) ∧ (plf f = plf g ∧ hf f = hf g ∧ rof f = rof g) ∧ (kdQ f = kdQ g ∧ Efq f = Efq g ∧ tiQ f = tiQ g ∧ hoQ f = hoQ g ∧ foQ f = foQ g ∧ eaQ f = eaQ g) := by
  have q := q_cg h hsu hpl
  obtain ⟨e1, e2, e3, e4, e5⟩ := id q
  have s0 := hsu.1
  obtain ⟨-, ⟨b1, b2, b3, b4⟩, ⟨c1, c2, c3, c4⟩, ⟨d1, d2, d3⟩⟩ := su_le h s0
  obtain ⟨-, ⟨p1, p2, p3, p4⟩, -⟩ := pl_eq h s0
  have eN : qN f = qN g := by
    unfold qN
    rw [e1, b1, b2, b3, b4]
  have ep : plf f = plf g := by
    unfold plf
    rw [eN]
  have eh : hf f = hf g := by
    unfold hf
    rw [eN]
  have er : rof f = rof g := by
    unfold rof
    rw [e1, eh, d1]
  have ek : kdQ f = kdQ g := by
    unfold kdQ
    rw [e1, ep]
  have eE : Efq f = Efq g := by
    unfold Efq
    rw [e1, e2, eh, ep]
  refine ⟨q, ⟨b1, b2, b3, b4⟩, ⟨by rw [c2], by rw [d1], p2⟩, ⟨ep, eh, er⟩, ek, eE, ?_, ?_, ?_, ?_⟩
  · unfold tiQ
    rw [e2, ek, eE, b2]
  · unfold hoQ
    rw [e2, ek, eE, b2]
  · unfold foQ
    rw [e2, ek, eE, b2]
  · unfold eaQ
    rw [ek, eE, b2]
theorem inG_V {g : Int → Int} {N B ids F n : Int} {pl2 h2 : Int → Int} (hB : 4096 ≤ B) (hn : 0 ≤ n) : ∀ (G : Nat) (p c : Int) (pl h : Int → Int), 0 ≤ p → p ≤ N → ivI g N B ids F n p c pl h → inG g N B ids F n G p c pl h = some (pl2, h2) → inV g N B ids F n pl2 h2
  | 0, _, _, _, _, _, _, _, e => by cases e
  | G + 1, p, c, pl, h, p0, p1, hv, e => by
    have e1 : (if N ≤ p then (if c = n then some (pl, h) else none) else cif (0 ≤ iE g N B ids F p ∧ (1 ≤ le g (p + 12) 4 ∧ le g (p + 12) 4 ≤ n) ∧ pl (le g (p + 12) 4) < 0) (inG g N B ids F n G (iE g N B ids F p) (c + 1) (ur pl (le g (p + 12) 4) p) (ur h p (le g (p + 12) 4))) none) = some (pl2, h2) := e
    by_cases c1 : N ≤ p
    · rw [if_pos c1] at e1
      by_cases c2 : c = n
      · rw [if_pos c2] at e1
        injection e1 with e1
        injection e1 with e2 e3
        rw [← e2, ← e3]
        rw [c2] at hv
        exact iv_end hn p1 hv
      · rw [if_neg c2] at e1
        cases e1
    · rw [if_neg c1] at e1
      by_cases c2 : 0 ≤ iE g N B ids F p ∧ (1 ≤ le g (p + 12) 4 ∧ le g (p + 12) 4 ≤ n) ∧ pl (le g (p + 12) 4) < 0
      · rw [cif_pos c2] at e1
        obtain ⟨d1, d2, d3⟩ := c2
        have r : iE g N B ids F p ≤ N := by
          rcases iE_r (g := g) (N := N) (ids := ids) (F := F) hB p0 with z | z
          · omega
          · exact z.2.1
        exact inG_V hB hn G _ _ _ _ d1 r (iv_step hB p0 hv d1 d2 d3) e1
      · rw [cif_neg c2] at e1
        cases e1
theorem inS_V {g : Int → Int} {N B ids F n : Int} {pl h : Int → Int} (hB : 4096 ≤ B) (hN : 0 ≤ N) (hn : 0 ≤ n) (e : inS g N B ids F n = some (pl, h)) : inV g N B ids F n pl h := inG_V hB hn _ 0 0 _ _ (by omega) hN (iv_0 g N B ids F n) e
theorem su_B {f : Int → Int} {s : Int} (h : suP f s) : (le f 12 4 = 2 ^ (le f 22 2).toNat ∧ 4096 ≤ le f 12 4 ∧ le f 12 4 ≤ 65536) ∧ (1 ≤ le f 4 4 ∧ le f 4 4 ≤ 4096) ∧ (0 ≤ le f 16 4 ∧ le f 16 4 ≤ 4096) ∧ (1 ≤ le f 26 2 ∧ le f 26 2 ≤ 4096) ∧ (96 ≤ s64 (le f 64 8) ∧ s64 (le f 64 8) ≤ s) := by
  obtain ⟨s0, -, ⟨b1, b2, b3⟩, ⟨s1, s2, s3⟩, s4, s5⟩ := h
  have l16 := le_nn f 4 16
  refine ⟨⟨b3, ?_⟩, s1, ⟨l16, s2⟩, s3, by omega⟩
  have : le f 22 2 = 12 ∨ le f 22 2 = 13 ∨ le f 22 2 = 14 ∨ le f 22 2 = 15 ∨ le f 22 2 = 16 := by omega
  rcases this with z | z | z | z | z
  all_goals
    rw [b3, z]
    decide
theorem ft_cg {f g : Int → Int} {s : Int} (h : agr f g s) : ftN f s = ftN g s := by
  refine cif_cg (suP_cg h) (fun hsu => cif_cg (plP_cg h hsu) (fun hpl => cif_cg (rwQ_cg h hsu hpl) (fun hrw => ?_)))
  obtain ⟨⟨e1, e2, e3, e4, e5⟩, ⟨b1, b2, b3, b4⟩, ⟨c2, d1, p2⟩, ⟨ep, eh, er⟩, ek, eE, et, eho, efo, eea⟩ := der_cg h hsu hpl
  obtain ⟨⟨-, sB, sB2⟩, sn, sF, -, sA⟩ := su_B hsu
  have i4 : fq4 f ↔ fq4 g := by
    unfold fq4
    rw [b1, c2, e3, b3]
  have i5 : fq5 f ↔ fq5 g := by
    unfold fq5
    rw [e1, b1, b2, b3, b4, p2, e4, ep, eh]
  have i6 : fq6 f ↔ fq6 g := by
    unfold fq6
    rw [e1, e2, ep, eh, b2]
  have i7 : fq7 f ↔ fq7 g := by
    unfold fq7
    rw [e1, ep, b2, er, ek, et, eho, efo]
  refine cif_cg i4 (fun h4 => cif_cg i5 (fun h5 => cif_cg i6 (fun h6 => cif_cg i7 (fun h7 => cif_cg ?_ (fun _ => rfl)))))
  have hv := inS_V sB (Int.natCast_nonneg _) (by omega) h5.1
  unfold fq8
  rw [← e1, ← e3, ← b1, ← b3, ← c2, ← b2, ← ep, ← ek]
  exact ⟨dtP_mp h sA.2 sB hv h4 sF, dtP_mp (agr_sym h) sA.2 sB hv h4 sF⟩
