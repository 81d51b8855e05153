/-! FREEZING: the rows of inodes and listings as one spec; an inode, the reference -/
def nuO (L : List Int) (x : Int) : Int := (L.idxOf x : Int) + 1
def cmR (M0 : FM) (ids L : List Int) (x ty : Int) : List Int := cmL ty (M0 172 x) (ids.idxOf (M0 173 x)) (ids.idxOf (M0 174 x)) (M0 175 x) (nuO L x)
/-- a link's target -/
def tgL (M0 : FM) (x : Int) : List Int := sl (M0 182) (M0 179 x) (M0 180 x).toNat
/-- the inode of a node that is no directory -/
def nnB (M0 : FM) (ids L : List Int) (D : DS) (x : Int) : List Int := if M0 171 x = 2 then flB (cmR M0 ids L x) (M0 177 x) (dN D 3 x) (dN D 0 x) (M0 180 x) (dN D 4 x) (dN D 5 x) (idB (((dB D).drop (dN D 1 x).toNat).take (dN D 2 x).toNat)) else cmR M0 ids L x (M0 171 x) ++ (leL (M0 177 x) 4 ++ otB (M0 171 x) (M0 176 x) (tgL M0 x))
/-- inodes, listings, and where a node's inode lies (-1: it is not yet there) -/
abbrev RS := List Int × List Int × (Int → Int)
def rI (s : RS) : List Int := s.1
def rQ (s : RS) : List Int := s.2.1
def rP (s : RS) : Int → Int := s.2.2
/-- the start of the piece with a place -/
def stI (z : Int) (I : List Int) (p : Int) : Int := ((clG z I 0 (p / 8192).toNat).length : Nat)
def ngE (M0 : FM) (z : Int) (L : List Int) (s : RS) (x : Int) (j : Nat) : ENt := (stI z (rI s) (rP s (M0 184 (fe M0 x + j))), rP s (M0 184 (fe M0 x + j)) % 8192, nuO L (M0 184 (fe M0 x + j)), M0 171 (M0 184 (fe M0 x + j)), nmL M0 (fe M0 x + j))
noncomputable def ngT (M0 : FM) (z : Int) (L : List Int) (s : RS) (x : Int) : LSt := lsS z (ngE M0 z L s x) (rQ s) (ec M0 x)
/-- the parent's number, as an inode tells it -/
def paN (M0 : FM) (L : List Int) (x : Int) : Int := if x = 0 then (L.length : Int) + 1 else nuO L (M0 178 x)
/-- a directory's inode -/
noncomputable def fnB (M0 : FM) (z : Int) (ids L : List Int) (s : RS) (x : Int) : List Int := fdB (cmR M0 ids L x) (lX (ngT M0 z L s x)).length (((lsC (ngE M0 z L s x) (ngT M0 z L s x)).length : Int) - (rQ s).length + 3) (stI z (rQ s) (rQ s).length) (((rQ s).length : Int) % 8192) (paN M0 L x) (foN M0 (fe M0 x) (ec M0 x) + 2) (ixL (ngE M0 z L s x) (lX (ngT M0 z L s x)))
def upP (P : Int → Int) (x v : Int) : Int → Int := fun y => if y = x then v else P y
theorem upP_at (P : Int → Int) (x v : Int) : upP P x v x = v := if_pos rfl
theorem upP_ne {P : Int → Int} {x v y : Int} (h : y ≠ x) : upP P x v y = P y := if_neg h
/-- a node's inode put -/
def rput (s : RS) (x : Int) (Y : List Int) : Option RS := if (rI s).length + Y.length ≤ 65536 then some (rI s ++ Y, rQ s, upP (rP s) x (rI s).length) else none
def rsOt (M0 : FM) (ids L : List Int) (D : DS) (e : Int) : Nat → Option RS → Option RS
  | 0, o => o
  | j + 1, o => (rsOt M0 ids L D e j o).bind (fun s => if rP s (M0 184 (e + j)) < 0 then rput s (M0 184 (e + j)) (nnB M0 ids L D (M0 184 (e + j))) else some s)
noncomputable def rsF (M0 : FM) (z : Int) (ids L : List Int) (x : Int) (o : Option RS) : Option RS := o.bind (fun s => if (lsC (ngE M0 z L s x) (ngT M0 z L s x)).length ≤ 65536 ∧ (rI s).length + (fnB M0 z ids L s x).length ≤ 65536 then some (rI s ++ fnB M0 z ids L s x, lsC (ngE M0 z L s x) (ngT M0 z L s x), upP (rP s) x (rI s).length) else none)
def rsK (M0 : FM) (fn : Int → Option RS → Option RS) (e : Int) : Nat → Option RS → Option RS
  | 0, o => o
  | j + 1, o => if M0 171 (M0 184 (e + j)) = 1 then fn (M0 184 (e + j)) (rsK M0 fn e j o) else rsK M0 fn e j o
/-- a directory: its directories, its other nodes, its listing, itself -/
noncomputable def rsD (M0 : FM) (z : Int) (ids L : List Int) (D : DS) : Nat → Int → Option RS → Option RS
  | 0, _, o => o
  | f + 1, x, o => rsF M0 z ids L x (rsOt M0 ids L D (fe M0 x) (ec M0 x) (rsK M0 (rsD M0 z ids L D f) (fe M0 x) (ec M0 x) o))
theorem rsOt_none (M0 : FM) (ids L : List Int) (D : DS) (e : Int) : ∀ j : Nat, rsOt M0 ids L D e j none = none
  | 0 => rfl
  | j + 1 => by
    unfold rsOt
    rw [rsOt_none M0 ids L D e j]
    rfl
/-- what the spec hangs on -/
def sxC (M0 : FM) (op : Int) (B : Nat) (L ids : List Int) (D : DS) : Prop := twR M0 ∧ (0 ≤ op ∧ op ≤ 15) ∧ bB5 B ∧ nuP M0 L ∧ ((0 : Int) ∈ L ∧ ∀ x ∈ L, ∀ j : Nat, j < ec M0 x → M0 184 (fe M0 x + j) ∈ L) ∧ ((∀ v ∈ ids, -2147483648 ≤ v ∧ v ≤ 2147483647) ∧ ids.length ≤ 4000 ∧ ∀ x ∈ L, M0 173 x ∈ ids ∧ M0 174 x ∈ ids) ∧ ((∀ b ∈ dB D, 0 ≤ b ∧ b ≤ 16842752) ∧ (dB D).length ≤ 2016 ∧ ∀ j x : Int, -1 ≤ dN D j x ∧ dN D j x ≤ 200000) ∧ ∀ y ∈ L, M0 171 y = 2 → flQ op B D (M0 180 y) y
/-- what the reference has by then -/
def rxC (M0 M : FM) (op : Int) (L ids : List Int) (D : DS) : Prop := tsR M0 M ∧ M 168 69 = op ∧ (M 168 63 = L.length ∧ ∀ x ∈ L, M 214 x = nuO L x) ∧ rdI M ids ∧ (∀ (i : Nat) (b : Int), (dB D)[i]? = some b → M 222 i = b) ∧ ∀ y ∈ L, M0 171 y = 2 → naM M (dN D) y
theorem nuO_r {L : List Int} {x : Int} (h : x ∈ L) : 1 ≤ nuO L x ∧ nuO L x ≤ L.length := by
  have := List.idxOf_lt_length_iff.2 h
  unfold nuO
  omega
theorem biF_a {M M1 M2 : FM} {x : Int} (h : biF M M1 x) (g : maF M1 M2 226) : biF M M2 x := ⟨fun c h1 h2 h3 h4 h5 => by rw [g.1 c h1 h2 (by omega) (by omega) (by omega) (by omega), h.1 c h1 h2 h3 h4 h5], fun i h1 h2 h3 h4 => by rw [g.2 i h1 h2 h3, h.2.1 i h1 h2 h3 h4], fun y hy => by rw [g.1 234 (by omega) (by omega) (by omega) (by omega) (by omega) (by omega), h.2.2 y hy]⟩
theorem rdI_a {M M2 : FM} {ids : List Int} (h : rdI M ids) (g : maF M M2 226) : rdI M2 ids := by
  unfold rdI at *
  rw [g.2 66 (by decide) (by decide) (by decide), g.1 215 (by omega) (by omega) (by omega) (by omega) (by omega) (by omega)]
  exact h
section MINODE
variable {d nx zl : Nat} {K : Option TV → FH → Prop} {sh : Nat → Option Shp} {M0 M : FM} {op : Int} {B : Nat} {L ids : List Int} {D : DS}
theorem mputInode_Y {x : Int} {R : List Int} (hs : sxC M0 op B L ids D) (hr : rxC M0 M op L ids D) (hx : x ∈ L) (hk : M0 171 x ≠ 1) (h : mrO M 226 227 228 229 (1 - op % 2) R)
    (k : ∀ M2 : FM, biF M M2 x → M2 234 x = M 226 1 → rdI M2 ids → mrO M2 226 227 228 229 (1 - op % 2) (R ++ nnB M0 ids L D x) → K none (sh, M2, nx, zl)) : fm_Y (d + 22) 304 [.ref 168, .int (Int32.ofInt x)] (sh, M, nx, zl) K := by
  obtain ⟨hW, hop, hB, hP, -, ⟨i1, i2, i3⟩, ⟨b1, b2, b3⟩, hF⟩ := hs
  obtain ⟨hts, h69, ⟨r63, r214⟩, hid, r222, rN⟩ := hr
  have nN := hW.1.1
  have xr := (hP.2 x hx).1
  have tw := hW.1.2 x xr.1 xr.2
  obtain ⟨k1, -, t172, t173, t174, t175, t176⟩ := tw
  have LL := nuP_len hW hP
  have nr := nuO_r hx
  have i3x := i3 x hx
  have tb := hW.2.1.2 x xr.1 xr.2
  have tb1 := hW.2.1.1
  have tc := (hW.2.2.2.2.2.2 x xr.1 xr.2).1
  have tcr := cnt_nn (M0 184) x (M0 168 20).toNat
  have n20 := hW.2.2.2.1.1
  have e : ∀ c : Nat, 171 ≤ c → c ≤ 187 → M c = M0 c := hts.1
  have v171 : M 171 x = M0 171 x := by rw [e 171 (by omega) (by omega)]
  have v177 : M 177 x = M0 177 x := by rw [e 177 (by omega) (by omega)]
  have dn3 := b3 3 x
  have v214 := r214 x hx
  obtain ⟨ty, hty⟩ : ∃ ty : Int, ty = if M0 171 x = 2 ∧ (1 < M0 177 x ∨ 0 < dN D 3 x) then 9 else M0 171 x := ⟨_, rfl⟩
  refine m304 [fx 168, ti x] ?_
  refine ⟨by omega, ?_⟩
  -- from the type on
  have B51 : ∀ e3 : Int, (M0 171 x = 2 ∧ (1 < M0 177 x ∨ 0 < dN D 3 x) → e3 = 1) → (¬ (M0 171 x = 2 ∧ (1 < M0 177 x ∨ 0 < dN D 3 x)) → e3 = 0) → b304_51 (d + 21) (fW (d + 21) kd304 K) K [some (fx 168), some (ti x), some (ti (M 171 x)), some (ti e3), none] [ti ty, ti x, fx 168] (sh, M, nx, zl) := by
    intro e3 e31 e30
    have tyr : 0 ≤ ty ∧ ty ≤ 100 := by
      rw [hty]
      split <;> omega
    refine beginInode_Y (d := d) (ids := ids) (R := R) hop h69 (by omega) tyr (by rw [e 172 (by omega) (by omega)]; exact t172) (by rw [e 173 (by omega) (by omega)]; exact t173) (by rw [e 174 (by omega) (by omega)]; exact t174) (by rw [e 175 (by omega) (by omega)]; exact t175) (by omega) hid i1 i2 (by rw [e 173 (by omega) (by omega)]; exact i3x.1) (by rw [e 174 (by omega) (by omega)]; exact i3x.2) h (fun M2 f2 g2 id2 w2 => ?_)
    have eC : cmL ty (M 172 x) (ids.idxOf (M 173 x)) (ids.idxOf (M 174 x)) (M 175 x) (M 214 x) = cmR M0 ids L x ty := by
      unfold cmR
      rw [e 172 (by omega) (by omega), e 173 (by omega) (by omega), e 174 (by omega) (by omega), e 175 (by omega) (by omega), v214]
    rw [eC] at w2
    have T2 : ∀ (M3 : FM) (c : Nat), biF M M3 x → 171 ≤ c → c ≤ 187 → M3 c = M0 c := fun M3 c f3 c1 c2 => by rw [f3.1 c (by omega) (by omega) (by omega) (by omega) (by omega), e c c1 c2]
    have O69 : ∀ M3 : FM, biF M M3 x → M3 168 69 = op := fun M3 f3 => by rw [f3.2.1 69 (by decide) (by decide) (by decide) (by decide)]; exact h69
    have G234 : ∀ M3 : FM, maF M2 M3 226 → M3 234 x = M 226 1 := fun M3 f3 => by rw [f3.1 234 (by omega) (by omega) (by omega) (by omega) (by omega) (by omega)]; exact g2
    by_cases c2 : M0 171 x = 2
    · -- a file
      obtain ⟨n0, n4, n5, n1, n2, n3⟩ := rN x hx c2
      obtain ⟨q1, q2, q3, q4⟩ := hF x hx c2
      have e3v : e3 = 1 ∧ (1 < M0 177 x ∨ 0 < dN D 3 x) ∨ e3 = 0 ∧ ¬ (1 < M0 177 x ∨ 0 < dN D 3 x) := by
        by_cases c : 1 < M0 177 x ∨ 0 < dN D 3 x
        · exact Or.inl ⟨e31 ⟨c2, c⟩, c⟩
        · exact Or.inr ⟨e30 (fun q => c q.2), c⟩
      have u216 : M2 216 x = dN D 0 x := by rw [f2.1 216 (by omega) (by omega) (by omega) (by omega) (by omega)]; exact n0
      have dn0 := b3 0 x
      have dn1 := b3 1 x
      have dn2 := b3 2 x
      have dn4 := b3 4 x
      have dn5 := b3 5 x
      refine ⟨by omega, fun w => by omega, fun w => ?_⟩
      refine ⟨by omega, ?_⟩
      -- the blocks
      have B191 : ∀ (M3 : FM) (v : Int) (R3 : List Int), maF M2 M3 226 → (-9223372036854775808 ≤ v ∧ v ≤ 9223372036854775807) → mrO M3 226 227 228 229 (1 - op % 2) R3 → R3 ++ (leL v 4 ++ idB (((dB D).drop (dN D 1 x).toNat).take (dN D 2 x).toNat)) = R ++ nnB M0 ids L D x → b304_191 (d + 21) (fW (d + 21) kd304 K) K [some (fx 168), some (ti x), some (ti (M 171 x)), some (ti e3), none] [tj v, fx 226, fx 168] (sh, M3, nx, zl) := by
        intro M3 v R3 f3 hv w3 hR3
        refine addTo_Y (d := d + 1) (n := 4) (mr226 sh) hop (O69 M3 (biF_a f2 f3)) hv (by omega) w3 (fun M4 f4 w4 => ?_)
        have f24 := maF_t f3 f4
        have LP : ∀ (N i : Nat) (M5 : FM), (dN D 2 x).toNat - i < N → i ≤ (dN D 2 x).toNat → maF M2 M5 226 → mrO M5 226 227 228 229 (1 - op % 2) (R3 ++ (leL v 4 ++ idB (((dB D).drop (dN D 1 x).toNat).take i))) → fm_X (d + 21) kd304 198 [some (fx 168), some (ti x), some (ti (M 171 x)), some (ti e3), some (ti i)] [] (sh, M5, nx, zl) K := by
          intro N
          induction N with
          | zero =>
            intro i M5 hN
            omega
          | succ N ih =>
            intro i M5 hN hi f5 w5
            have f05 := biF_a f2 f5
            have u220 : M5 220 x = dN D 2 x := by rw [f05.1 220 (by omega) (by omega) (by omega) (by omega) (by omega)]; exact n2
            have u219 : M5 219 x = dN D 1 x := by rw [f05.1 219 (by omega) (by omega) (by omega) (by omega) (by omega)]; exact n1
            refine s304_198 (d + 21) K _ _ _ ?_
            refine ⟨by omega, ?_⟩
            refine ⟨by omega, fun w => ?_, fun w => ?_⟩
            · have ei : i = (dN D 2 x).toNat := by omega
              rw [ei, hR3] at w5
              exact k M5 f05 (G234 M5 f5) (rdI_a id2 f5) w5
            · obtain ⟨b, hb⟩ : ∃ b, (dB D)[(dN D 1 x).toNat + i]? = some b := ⟨_, List.getElem?_eq_getElem (by omega)⟩
              have ub : M5 222 (M5 219 x + i) = b := by
                rw [f05.1 222 (by omega) (by omega) (by omega) (by omega) (by omega), u219, show dN D 1 x + (i : Int) = (((dN D 1 x).toNat + i : Nat) : Int) by omega]
                exact r222 _ b hb
              have br := b1 b (List.mem_of_getElem? hb)
              refine ⟨by omega, ?_⟩
              refine ⟨by omega, ?_⟩
              refine ⟨by omega, ?_⟩
              refine addTo_Y (d := d + 1) (n := 4) (mr226 sh) hop (O69 M5 f05) (by omega) (by omega) w5 (fun M6 f6 w6 => ?_)
              refine ih (i + 1) M6 (by omega) (by omega) (maF_t f5 f6) ?_
              have et : ((dB D).drop (dN D 1 x).toNat).take (i + 1) = ((dB D).drop (dN D 1 x).toNat).take i ++ [b] := by
                rw [List.take_add_one, List.getElem?_drop, hb]
                rfl
              rw [et, idB_app, ← ub]
              simp only [List.append_assoc] at w6 ⊢
              exact w6
        have F := LP ((dN D 2 x).toNat + 1) 0 M4 (by omega) (by omega) f24 ?_
        · exact F
        · show mrO M4 226 227 228 229 (1 - op % 2) (R3 ++ (leL v 4 ++ []))
          rw [List.append_nil]
          exact w4
      -- fragment, place, size
      have B137 : ∀ (M3 : FM) (R3 : List Int), maF M2 M3 226 → mrO M3 226 227 228 229 (1 - op % 2) R3 → (e3 = 0 → R3 ++ (leL (dN D 4 x) 4 ++ (leL (dN D 5 x) 4 ++ (leL (M0 180 x) 4 ++ idB (((dB D).drop (dN D 1 x).toNat).take (dN D 2 x).toNat)))) = R ++ nnB M0 ids L D x) → (e3 = 1 → R3 ++ (leL (dN D 4 x) 4 ++ (leL (dN D 5 x) 4 ++ (leL (-1) 4 ++ idB (((dB D).drop (dN D 1 x).toNat).take (dN D 2 x).toNat)))) = R ++ nnB M0 ids L D x) → b304_137 (d + 21) (fW (d + 21) kd304 K) K [some (fx 168), some (ti x), some (ti (M 171 x)), some (ti e3), none] [] (sh, M3, nx, zl) := by
        intro M3 R3 f3 w3 h0 h1
        have f03 := biF_a f2 f3
        have u217 : M3 217 x = dN D 4 x := by rw [f03.1 217 (by omega) (by omega) (by omega) (by omega) (by omega)]; exact n4
        refine ⟨by omega, ?_⟩
        refine ⟨by omega, ?_⟩
        refine addTo_Y (d := d + 1) (n := 4) (mr226 sh) hop (O69 M3 f03) (by omega) (by omega) w3 (fun M4 f4 w4 => ?_)
        have f04 := biF_a f03 f4
        have u218 : M4 218 x = dN D 5 x := by rw [f04.1 218 (by omega) (by omega) (by omega) (by omega) (by omega)]; exact n5
        refine ⟨by omega, ?_⟩
        refine ⟨by omega, ?_⟩
        refine addTo_Y (d := d + 1) (n := 4) (mr226 sh) hop (O69 M4 f04) (by omega) (by omega) w4 (fun M5 f5 w5 => ?_)
        have f05 := biF_a f04 f5
        rw [u217, u218] at w5
        have u180 : M5 180 x = M0 180 x := by rw [T2 M5 180 f05 (by omega) (by omega)]
        have f25 := maF_t f3 (maF_t f4 f5)
        rcases e3v with ⟨e3e, -⟩ | ⟨e3e, -⟩
        · refine ⟨by omega, fun w => by omega, fun w => ?_⟩
          refine B191 M5 (-1) _ f25 (by omega) w5 ?_
          rw [← h1 e3e]
          simp only [List.append_assoc]
        · refine ⟨by omega, fun w => ?_, fun w => by omega⟩
          refine ⟨by omega, ?_⟩
          refine ⟨by omega, ?_⟩
          rw [u180]
          refine B191 M5 (M0 180 x) _ f25 (by omega) w5 ?_
          rw [← h0 e3e]
          simp only [List.append_assoc]
      rcases e3v with ⟨e3e, cm⟩ | ⟨e3e, cm⟩
      · refine ⟨by omega, fun w => by omega, fun w => ?_⟩
        have et : ty = 9 := by rw [hty, if_pos ⟨c2, cm⟩]
        rw [et] at w2
        refine addTo_Y (d := d + 1) (n := 8) (mr226 sh) hop (O69 M2 f2) (by omega) (by omega) w2 (fun M3 f3 w3 => ?_)
        have f03 := biF_a f2 f3
        have u180 : M3 180 x = M0 180 x := by rw [T2 M3 180 f03 (by omega) (by omega)]
        refine ⟨by omega, fun w => by omega, fun w => ?_⟩
        refine ⟨by omega, ?_⟩
        refine ⟨by omega, ?_⟩
        refine addTo_Y (d := d + 1) (n := 8) (mr226 sh) hop (O69 M3 f03) (by omega) (by omega) w3 (fun M4 f4 w4 => ?_)
        have f04 := biF_a f03 f4
        have u221 : M4 221 x = dN D 3 x := by rw [f04.1 221 (by omega) (by omega) (by omega) (by omega) (by omega)]; exact n3
        refine ⟨by omega, ?_⟩
        refine ⟨by omega, ?_⟩
        refine addTo_Y (d := d + 1) (n := 8) (mr226 sh) hop (O69 M4 f04) (by omega) (by omega) w4 (fun M5 f5 w5 => ?_)
        have f05 := biF_a f04 f5
        have u177 : M5 177 x = M0 177 x := by rw [T2 M5 177 f05 (by omega) (by omega)]
        refine ⟨by omega, ?_⟩
        refine ⟨by omega, ?_⟩
        refine addTo_Y (d := d + 1) (n := 4) (mr226 sh) hop (O69 M5 f05) (by omega) (by omega) w5 (fun M6 f6 w6 => ?_)
        rw [u216, u180, u221, u177] at w6
        refine B137 M6 _ (maF_t f3 (maF_t f4 (maF_t f5 f6))) w6 (fun q => by omega) (fun _ => ?_)
        unfold nnB flB
        rw [if_pos c2, if_pos cm]
        simp only [List.append_assoc]
      · refine ⟨by omega, fun w => ?_, fun w => by omega⟩
        have et : ty = 2 := by rw [hty, if_neg (fun q => cm q.2)]; exact c2
        rw [et] at w2
        refine addTo_Y (d := d + 1) (n := 4) (mr226 sh) hop (O69 M2 f2) (by omega) (by omega) w2 (fun M3 f3 w3 => ?_)
        refine ⟨by omega, fun w => ?_, fun w => by omega⟩
        rw [u216] at w3
        refine B137 M3 _ f3 w3 (fun _ => ?_) (fun q => by omega)
        unfold nnB flB
        rw [if_pos c2, if_neg cm]
        simp only [List.append_assoc]
    · -- others
      have et : ty = M0 171 x := by rw [hty, if_neg (fun q => c2 q.1)]
      rw [et] at w2
      have u177 : M2 177 x = M0 177 x := by rw [T2 M2 177 f2 (by omega) (by omega)]
      refine ⟨by omega, fun w => ?_, fun w => by omega⟩
      refine ⟨by omega, ?_⟩
      refine ⟨by omega, ?_⟩
      refine addTo_Y (d := d + 1) (n := 4) (mr226 sh) hop (O69 M2 f2) (by omega) (by omega) w2 (fun M3 f3 w3 => ?_)
      have f03 := biF_a f2 f3
      rw [u177] at w3
      refine ⟨by omega, fun w4 => ?_, fun w4 => ?_⟩
      · refine ⟨by omega, fun w5 => ?_, fun w5 => ?_⟩
        · refine k M3 f03 (G234 M3 f3) (rdI_a id2 f3) ?_
          unfold nnB otB
          rw [if_neg c2, if_neg (by omega), if_neg (by omega), List.append_nil]
          simp only [List.append_assoc] at w3 ⊢
          exact w3
        · have u176 : M3 176 x = M0 176 x := by rw [T2 M3 176 f03 (by omega) (by omega)]
          refine ⟨by omega, ?_⟩
          refine ⟨by omega, ?_⟩
          refine addTo_Y (d := d + 1) (n := 4) (mr226 sh) hop (O69 M3 f03) (by omega) (by omega) w3 (fun M4 f4 w4 => ?_)
          refine k M4 (biF_a f03 f4) (G234 M4 (maF_t f3 f4)) (rdI_a id2 (maF_t f3 f4)) ?_
          rw [u176] at w4
          unfold nnB otB
          rw [if_neg c2, if_neg (by omega), if_pos (by omega)]
          simp only [List.append_assoc] at w4 ⊢
          exact w4
      · have c3 : M0 171 x = 3 := by omega
        have u180 : M3 180 x = M0 180 x := by rw [T2 M3 180 f03 (by omega) (by omega)]
        have lT : ((tgL M0 x).length : Int) = M0 180 x := by
          unfold tgL
          rw [sl_len]
          omega
        refine ⟨by omega, ?_⟩
        refine ⟨by omega, ?_⟩
        refine addTo_Y (d := d + 1) (n := 4) (mr226 sh) hop (O69 M3 f03) (by omega) (by omega) w3 (fun M4 f4 w4 => ?_)
        rw [u180] at w4
        have LP : ∀ (N i : Nat) (M5 : FM), (M0 180 x).toNat - i < N → i ≤ (M0 180 x).toNat → maF M2 M5 226 → mrO M5 226 227 228 229 (1 - op % 2) (R ++ cmR M0 ids L x (M0 171 x) ++ leL (M0 177 x) 4 ++ leL (M0 180 x) 4 ++ sl (M0 182) (M0 179 x) i) → fm_X (d + 21) kd304 280 [some (fx 168), some (ti x), some (ti (M 171 x)), some (ti e3), some (ti i)] [] (sh, M5, nx, zl) K := by
          intro N
          induction N with
          | zero =>
            intro i M5 hN
            omega
          | succ N ih =>
            intro i M5 hN hi f5 w5
            have f05 := biF_a f2 f5
            have x180 : M5 180 x = M0 180 x := by rw [T2 M5 180 f05 (by omega) (by omega)]
            have x179 : M5 179 x = M0 179 x := by rw [T2 M5 179 f05 (by omega) (by omega)]
            have tb3 := tb.2.2 c3
            refine s304_280 (d + 21) K _ _ _ ?_
            refine ⟨by omega, ?_⟩
            refine ⟨by omega, fun w => ?_, fun w => ?_⟩
            · have ei : i = (M0 180 x).toNat := by omega
              rw [ei] at w5
              refine k M5 f05 (G234 M5 f5) (rdI_a id2 f5) ?_
              unfold nnB otB
              rw [if_neg c2, if_pos c3, lT]
              unfold tgL
              simp only [List.append_assoc] at w5 ⊢
              exact w5
            · refine ⟨by omega, ?_⟩
              refine ⟨by omega, ?_⟩
              obtain ⟨v, hv⟩ : ∃ v : Int, v = M5 182 (M5 179 x + i) := ⟨_, rfl⟩
              refine ⟨by omega, ?_⟩
              refine addTo_Y (d := d + 1) (n := 1) (mr226 sh) hop (O69 M5 f05) (by omega) (by omega) w5 (fun M6 f6 w6 => ?_)
              refine ih (i + 1) M6 (by omega) (by omega) (maF_t f5 f6) ?_
              rw [leL_1] at w6
              rw [sl_back]
              have ev : ((M5 182 (M5 179 x + i) + 128) % 256 - 128) % 256 = M0 182 (M0 179 x + i) % 256 := by
                rw [T2 M5 182 f05 (by omega) (by omega), x179]
                omega
              rw [ev] at w6
              simp only [List.append_assoc] at w6 ⊢
              exact w6
        have F := LP ((M0 180 x).toNat + 1) 0 M4 (by omega) (by omega) (maF_t f3 f4) ?_
        · exact F
        · show mrO M4 226 227 228 229 (1 - op % 2) (R ++ cmR M0 ids L x (M0 171 x) ++ leL (M0 177 x) 4 ++ leL (M0 180 x) 4 ++ [])
          rw [List.append_nil]
          simp only [List.append_assoc] at w4 ⊢
          exact w4
  -- whether more is told
  have B36 : ∀ e3 : Int, (M0 171 x = 2 ∧ (1 < M0 177 x ∨ 0 < dN D 3 x) → e3 = 1) → (¬ (M0 171 x = 2 ∧ (1 < M0 177 x ∨ 0 < dN D 3 x)) → e3 = 0) → b304_36 (d + 21) (fW (d + 21) kd304 K) K [some (fx 168), some (ti x), some (ti (M 171 x)), none, none] [ti e3] (sh, M, nx, zl) := by
    intro e3 e31 e30
    have F := B51 e3 e31 e30
    by_cases c : M0 171 x = 2 ∧ (1 < M0 177 x ∨ 0 < dN D 3 x)
    · have q := e31 c
      have c1 := c.1
      rw [hty, if_pos c, show (9 : Int) = M 171 x + 7 by omega] at F
      exact ⟨by omega, fun w => by omega, fun w => F⟩
    · have q := e30 c
      rw [hty, if_neg c, ← v171] at F
      exact ⟨by omega, fun w => F, fun w => by omega⟩
  refine ⟨by omega, fun w => ?_, fun w => ?_⟩
  · exact B36 0 (fun q => by have := q.1; omega) (fun _ => rfl)
  · have c2 : M0 171 x = 2 := by omega
    obtain ⟨n0, n4, n5, n1, n2, n3⟩ := rN x hx c2
    refine ⟨by omega, ?_⟩
    refine ⟨by omega, fun w2 => ?_, fun w2 => ?_⟩
    · exact B36 1 (fun _ => rfl) (fun q => absurd ⟨c2, Or.inl (by omega)⟩ q)
    · refine ⟨by omega, ?_⟩
      refine ⟨by omega, fun w3 => ?_, fun w3 => ?_⟩
      · exact B36 0 (fun q => by rcases q.2 with q2 | q2 <;> omega) (fun _ => rfl)
      · exact B36 1 (fun _ => rfl) (fun q => absurd ⟨c2, Or.inr (by omega)⟩ q)
end MINODE
