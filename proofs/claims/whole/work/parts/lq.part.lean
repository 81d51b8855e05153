/-! PACKING: what a part is -/
def laT (T : List (Int × Int)) : Int → Int := lgF (cyS T) 288 15
def lbT (T : List (Int × Int)) : Int → Int := lgF (cdN T) 32 15
def hTT (T : List (Int × Int)) : Int := usL (laT T) 286
def dTT (T : List (Int × Int)) : Int := max 1 (usL (lbT T) 30)
def seT (T : List (Int × Int)) : List (Int × Int) := teS (hrow (laT T) (lbT T) (hTT T)) (hTT T + dTT T)
def ltT (T : List (Int × Int)) : Int → Int := lgF (cnT (seT T)) 19 7
/-- the bits of the three ways -/
def mdT (T : List (Int × Int)) : Int := 17 + 3 * tuL (ltT T) + byT (laT T) (lbT T) T + tlB2 (ltT T) (seT T)
def fxT2 (T : List (Int × Int)) : Int := 3 + byT fxA fxB T
def stT (n : Nat) (l : Int) : Int := 3 + ((8 - (n + 3) % 8) % 8 : Nat) + 32 + 8 * l
/-- a part behind the bits B -/
def ptS (B : List Int) (f : Int → Int) (a b e last : Int) : List Int :=
  if stT B.length (e - b) ≤ fxT2 (tkS f a b e) ∧ stT B.length (e - b) ≤ mdT (tkS f a b e) then padB (B ++ [last] ++ nbL 0 2) ++ nbL (e - b) 16 ++ nbL (65535 - (e - b)) 16 ++ sbL f (a + b) (e - b).toNat
  else if fxT2 (tkS f a b e) ≤ mdT (tkS f a b e) then B ++ [last] ++ nbL 1 2 ++ tksL fxA 288 fxB 32 (tkS f a b e)
  else B ++ [last] ++ hdL (ltT (tkS f a b e)) (seT (tkS f a b e)) (hTT (tkS f a b e)) (dTT (tkS f a b e)) ++ tksL (laT (tkS f a b e)) 288 (lbT (tkS f a b e)) 32 (tkS f a b e)
theorem cyN_b (T : List (Int × Int)) (s : Int) : 0 ≤ cyN T s ∧ cyN T s ≤ T.length := by
  induction T with
  | nil =>
    show (0 : Int) ≤ 0 ∧ (0 : Int) ≤ ((0 : Nat) : Int)
    omega
  | cons t r ih =>
    show 0 ≤ cyN r s + (if tkY t = s then 1 else 0) ∧ cyN r s + (if tkY t = s then 1 else 0) ≤ ((r.length + 1 : Nat) : Int)
    split <;> omega
theorem cdN_b (T : List (Int × Int)) (s : Int) : 0 ≤ cdN T s ∧ cdN T s ≤ T.length := by
  induction T with
  | nil =>
    show (0 : Int) ≤ 0 ∧ (0 : Int) ≤ ((0 : Nat) : Int)
    omega
  | cons t r ih =>
    show 0 ≤ cdN r s + (if t.1 ≠ 0 ∧ dsY t.2 = s then 1 else 0) ∧ cdN r s + (if t.1 ≠ 0 ∧ dsY t.2 = s then 1 else 0) ≤ ((r.length + 1 : Nat) : Int)
    split <;> omega
theorem cyS_b (T : List (Int × Int)) (s : Int) : 0 ≤ cyS T s ∧ cyS T s ≤ T.length + 1 := by
  have := cyN_b T s
  unfold cyS
  split <;> omega
theorem cyN_hi {T : List (Int × Int)} (h : ∀ t ∈ T, tkOK t) {s : Int} (hs : 286 ≤ s) : cyN T s = 0 := by
  induction T with
  | nil => rfl
  | cons t r ih =>
    have t1 := tkY_r (h t (List.mem_cons_self ..))
    show cyN r s + (if tkY t = s then 1 else 0) = 0
    rw [ih (fun q hq => h q (List.mem_cons_of_mem _ hq)), if_neg (by omega)]
    rfl
theorem cdN_hi {T : List (Int × Int)} (h : ∀ t ∈ T, tkOK t) {s : Int} (hs : 30 ≤ s) : cdN T s = 0 := by
  induction T with
  | nil => rfl
  | cons t r ih =>
    have ok := h t (List.mem_cons_self ..)
    show cdN r s + (if t.1 ≠ 0 ∧ dsY t.2 = s then 1 else 0) = 0
    rw [ih (fun q hq => h q (List.mem_cons_of_mem _ hq)), if_neg ?_]
    · rfl
    · intro z
      rcases ok with ⟨o1, -⟩ | ⟨-, o2⟩
      · exact z.1 o1
      · have := dsY_r o2
        omega
theorem usL_ge {ls : Int → Int} {s : Nat} (h : 0 < ls s) : ∀ n : Nat, s < n → (s : Int) + 1 ≤ usL ls n
  | 0, h1 => by omega
  | n + 1, h1 => by
    unfold usL
    by_cases e : s = n
    · rw [← e, if_pos h]
      omega
    · have := usL_ge h n (by omega)
      split <;> omega
theorem lgF_ext {c : Int → Int} {n li : Nat} (h : c n ≤ 0) : lgF c (n + 1) li = lgF c n li := by
  have e : rkG c (n + 1) = rkG c n := by
    show (if 0 < c n then insR c n (rkG c n) else rkG c n) = rkG c n
    rw [if_neg (by omega)]
  funext x
  unfold lgF vLn
  rw [e]
theorem cnt_z1 {ls : Int → Int} {n : Nat} (h : ls n = 0) {l : Nat} (hl : 1 ≤ l) : cnt ls (n + 1) l = cnt ls n l := by
  show cnt ls n l + (if ls n = l then 1 else 0) = cnt ls n l
  rw [h, if_neg (by omega), Int.add_zero]
theorem fstL_ext {ls : Int → Int} {n : Nat} (h : ls n = 0) : ∀ l : Nat, fstL ls (n + 1) l = fstL ls n l
  | 0 => rfl
  | l + 1 => by
    show 2 * (fstL ls (n + 1) l + (if l = 0 then 0 else cnt ls (n + 1) l)) = 2 * (fstL ls n l + (if l = 0 then 0 else cnt ls n l))
    rw [fstL_ext h l]
    by_cases e : l = 0
    · rw [if_pos e, if_pos e]
    · rw [if_neg e, if_neg e, cnt_z1 h (by omega)]
theorem cdC_ext {ls : Int → Int} {n : Nat} (h : ls n = 0) (s : Nat) : cdC ls (n + 1) s = cdC ls n s := by
  unfold cdC
  rw [fstL_ext h]
theorem cbL_ext {ls : Int → Int} {n : Nat} (h : ls n = 0) (s : Int) : cbL ls (n + 1) s = cbL ls n s := by
  unfold cbL
  rw [cdC_ext h]
theorem tksL_ext {la lb : Int → Int} {na nb : Nat} (h1 : la na = 0) (h2 : lb nb = 0) : ∀ T : List (Int × Int), tksL la (na + 1) lb (nb + 1) T = tksL la na lb nb T
  | [] => cbL_ext h1 256
  | t :: r => by
    show tkL la (na + 1) lb (nb + 1) t ++ tksL la (na + 1) lb (nb + 1) r = tkL la na lb nb t ++ tksL la na lb nb r
    rw [tksL_ext h1 h2 r]
    unfold tkL
    rw [cbL_ext h1, cbL_ext h1, cbL_ext h2]
theorem trG_ok {v : Int} (hv : 0 ≤ v ∧ v ≤ 15) : ∀ (g : Nat) (left : Int), ∀ p ∈ trG v g left, ttOK p
  | 0, _, p, h => by cases h
  | g + 1, left, p, h => by
    have t16 : tbE 16 = 2 := rfl
    have t17 : tbE 17 = 3 := rfl
    have t18 : tbE 18 = 7 := rfl
    have tv : tbE v = 0 := by
      unfold tbE
      rw [if_neg (by omega), if_neg (by omega), if_neg (by omega)]
    have one : ∀ (x y : Int), 0 ≤ x → x ≤ 18 → 0 ≤ y → y < 2 ^ (tbE x).toNat → ttOK (x, y) := fun x y h1 h2 h3 h4 => ⟨⟨h1, h2⟩, h3, h4⟩
    unfold trG at h
    by_cases c : left ≤ 0
    · rw [if_pos c] at h
      cases h
    · rw [if_neg c] at h
      by_cases c1 : v = 0 ∧ 11 ≤ left
      · rw [if_pos c1] at h
        rcases List.mem_cons.1 h with y | y
        · rw [y]
          refine one 18 _ (by omega) (by omega) (by omega) ?_
          rw [t18, show (2 : Int) ^ (7 : Int).toNat = 128 from rfl]
          omega
        · exact trG_ok hv g _ p y
      · rw [if_neg c1] at h
        by_cases c2 : v = 0 ∧ 3 ≤ left
        · rw [if_pos c2] at h
          rcases List.mem_cons.1 h with y | y
          · rw [y]
            refine one 17 _ (by omega) (by omega) (by omega) ?_
            rw [t17, show (2 : Int) ^ (3 : Int).toNat = 8 from rfl]
            omega
          · exact trG_ok hv g _ p y
        · rw [if_neg c2] at h
          by_cases c3 : 3 ≤ left
          · rw [if_pos c3] at h
            rcases List.mem_cons.1 h with y | y
            · rw [y]
              refine one 16 _ (by omega) (by omega) (by omega) ?_
              rw [t16, show (2 : Int) ^ (2 : Int).toNat = 4 from rfl]
              omega
            · exact trG_ok hv g _ p y
          · rw [if_neg c3] at h
            rcases List.mem_cons.1 h with y | y
            · rw [y]
              refine one v 0 (by omega) (by omega) (by omega) ?_
              rw [tv]
              decide
            · exact trG_ok hv g _ p y
theorem trN_ok {v run : Int} (hv : 0 ≤ v ∧ v ≤ 15) : ∀ p ∈ trN v run, ttOK p := by
  intro p h
  unfold trN at h
  by_cases c : 0 < v
  · rw [if_pos c] at h
    rcases List.mem_cons.1 h with y | y
    · rw [y]
      have tv : tbE v = 0 := by
        unfold tbE
        rw [if_neg (by omega), if_neg (by omega), if_neg (by omega)]
      refine ⟨⟨by show 0 ≤ v; omega, by show v ≤ 18; omega⟩, by show (0 : Int) ≤ 0; omega, ?_⟩
      show (0 : Int) < 2 ^ (tbE v).toNat
      rw [tv]
      decide
    · exact trG_ok hv _ _ p y
  · rw [if_neg c] at h
    exact trG_ok hv _ _ p h
theorem teG_ok {r : Int → Int} {al : Int} (hr : ∀ i : Int, 0 ≤ i → i < al → 0 ≤ r i ∧ r i ≤ 15) : ∀ (g : Nat) (i : Int), 0 ≤ i → ∀ p ∈ teG r al g i, ttOK p
  | 0, _, _, p, h => by cases h
  | g + 1, i, h0, p, h => by
    unfold teG at h
    by_cases c : i < al
    · rw [if_pos c] at h
      have b := rnS_b (r := r) c
      rcases List.mem_append.1 h with y | y
      · exact trN_ok (hr i h0 c) p y
      · exact teG_ok hr g _ (by omega) p y
    · rw [if_neg c] at h
      cases h
section PART
variable {T : List (Int × Int)}
theorem laT_b (s : Int) : 0 ≤ laT T s ∧ laT T s ≤ 15 := lgF_b (by omega) s
theorem lbT_b (s : Int) : 0 ≤ lbT T s ∧ lbT T s ≤ 15 := lgF_b (by omega) s
theorem ltT_b (s : Int) : 0 ≤ ltT T s ∧ ltT T s ≤ 7 := lgF_b (by omega) s
theorem cyS_hi (h : ∀ t ∈ T, tkOK t) {s : Int} (hs : 286 ≤ s) : cyS T s = 0 := by
  unfold cyS
  rw [cyN_hi h hs, if_neg (by omega)]
  rfl
theorem laT_286 (h : ∀ t ∈ T, tkOK t) : laT T = lgF (cyS T) 286 15 := by
  unfold laT
  rw [lgF_ext (n := 287) (by have := cyS_hi h (s := ((287 : Nat) : Int)) (by omega); omega), lgF_ext (n := 286) (by have := cyS_hi h (s := ((286 : Nat) : Int)) (by omega); omega)]
theorem lbT_30 (h : ∀ t ∈ T, tkOK t) : lbT T = lgF (cdN T) 30 15 := by
  unfold lbT
  rw [lgF_ext (n := 31) (by have := cdN_hi h (s := ((31 : Nat) : Int)) (by omega); omega), lgF_ext (n := 30) (by have := cdN_hi h (s := ((30 : Nat) : Int)) (by omega); omega)]
theorem big288 : (288 - 1) / 2 ^ (15 - 1) ≤ 1 := by decide
theorem big32 : (32 - 1) / 2 ^ (15 - 1) ≤ 1 := by decide
theorem big19 : (19 - 1) / 2 ^ (7 - 1) ≤ 1 := by decide
theorem big286 : (286 - 1) / 2 ^ (15 - 1) ≤ 1 := by decide
theorem big30 : (30 - 1) / 2 ^ (15 - 1) ≤ 1 := by decide
theorem laT_z (h : ∀ t ∈ T, tkOK t) {s : Nat} (h1 : 286 ≤ s) (h2 : s < 288) : laT T s = 0 := by
  have p := (lgF_pos (c := cyS T) (n := 288) (li := 15) (by omega) big288 h2).1
  have b := laT_b (T := T) s
  have z := cyS_hi h (s := s) (by omega)
  unfold laT at *
  omega
theorem lbT_z (h : ∀ t ∈ T, tkOK t) {s : Nat} (h1 : 30 ≤ s) (h2 : s < 32) : lbT T s = 0 := by
  have p := (lgF_pos (c := cdN T) (n := 32) (li := 15) (by omega) big32 h2).1
  have b := lbT_b (T := T) s
  have z := cdN_hi h (s := s) (by omega)
  unfold lbT at *
  omega
theorem hTT_r (h : ∀ t ∈ T, tkOK t) : 257 ≤ hTT T ∧ hTT T ≤ 286 := by
  have p := (lgF_pos (c := cyS T) (n := 288) (li := 15) (s := 256) (by omega) big288 (by omega)).2 (by
    have := cyN_b T 256
    show 0 < cyN T 256 + (if (256 : Int) = 256 then 1 else 0)
    rw [if_pos rfl]
    omega)
  have g := usL_ge (ls := laT T) (s := 256) p 286 (by omega)
  have b := usL_b (laT T) 286
  unfold hTT
  omega
theorem dTT_r : 1 ≤ dTT T ∧ dTT T ≤ 30 := by
  have b := usL_b (lbT T) 30
  unfold dTT
  omega
theorem hr_b (h : ∀ t ∈ T, tkOK t) : ∀ i : Int, 0 ≤ i → i < hTT T + dTT T → 0 ≤ hrow (laT T) (lbT T) (hTT T) i ∧ hrow (laT T) (lbT T) (hTT T) i ≤ 15 := by
  intro i i0 i1
  unfold hrow
  split
  · exact laT_b i
  · exact lbT_b _
theorem seT_ok (h : ∀ t ∈ T, tkOK t) : ∀ p ∈ seT T, ttOK p := teG_ok (hr_b h) _ 0 (by omega)
theorem seT_len (h : ∀ t ∈ T, tkOK t) : ((seT T).length : Int) ≤ 316 := by
  have a := hTT_r h
  have b := dTT_r (T := T)
  have := teG_len (hrow (laT T) (lbT T) (hTT T)) (hTT T + dTT T) (hTT T + dTT T).toNat 0 (by omega)
  unfold seT teS
  omega
theorem tks_286 (h : ∀ t ∈ T, tkOK t) : tksL (laT T) 286 (lbT T) 30 T = tksL (laT T) 288 (lbT T) 32 T := by
  rw [tksL_ext (na := 287) (nb := 31) (laT_z h (by omega) (by omega)) (lbT_z h (by omega) (by omega)), tksL_ext (na := 286) (nb := 30) (laT_z h (by omega) (by omega)) (lbT_z h (by omega) (by omega))]
theorem cdC_286 (h : ∀ t ∈ T, tkOK t) (s : Nat) : cdC (laT T) 286 s = cdC (laT T) 288 s := by
  rw [cdC_ext (n := 287) (laT_z h (by omega) (by omega)), cdC_ext (n := 286) (laT_z h (by omega) (by omega))]
theorem byT_b {la lb : Int → Int} (ha : ∀ s : Int, 0 ≤ s → s < 286 → 0 ≤ la s ∧ la s ≤ 15) (hb : ∀ s : Int, 0 ≤ s → s < 30 → 0 ≤ lb s ∧ lb s ≤ 15) (h : ∀ t ∈ T, tkOK t) (hl : T.length ≤ 4096) : 0 ≤ byT la lb T ∧ byT la lb T ≤ 200000 := by
  have a := ha 256 (by omega) (by omega)
  have b := tkBs_b ha hb T h
  unfold byT
  omega
theorem fxA_b (s : Int) : 0 ≤ fxA s ∧ fxA s ≤ 15 := by
  unfold fxA
  repeat' split
  all_goals omega
theorem fxB_b (s : Int) : 0 ≤ fxB s ∧ fxB s ≤ 15 := by
  unfold fxB
  omega
theorem tl2_b (h : ∀ t ∈ T, tkOK t) : 0 ≤ tlB2 (ltT T) (seT T) ∧ tlB2 (ltT T) (seT T) ≤ 7000 := by
  have a := tlB2_b (lt := ltT T) (fun s _ _ => by have := ltT_b (T := T) s; omega) (seT T) (fun p hp => by have := (seT_ok h p hp).1; omega)
  have b := seT_len h
  omega
/-- the bits of the way that is chosen -/
theorem ptS_len (h : ∀ t ∈ T, tkOK t) {B : List Int} {f : Int → Int} {a b e last : Int} (hT : T = tkS f a b e) (hb : b ≤ e ∧ e ≤ b + 4096) : (B.length : Int) ≤ (ptS B f a b e last).length ∧ ((ptS B f a b e last).length : Int) ≤ B.length + stT B.length (e - b) := by
  have t1 := tksL_len 288 32 (fun s _ _ => fxA_b s) (fun s _ _ => fxB_b s) T h
  have t2 := tksL_len 288 32 (fun s _ _ => laT_b (T := T) s) (fun s _ _ => lbT_b (T := T) s) T h
  have t3 := hdL_len (lt := ltT T) (fun s _ _ => by have := ltT_b (T := T) s; omega) (seT_ok h) (hTT T) (dTT T)
  have w := byT_b (T := []) (fun s _ _ => fxA_b s) (fun s _ _ => fxB_b s) (fun t ht => by cases ht) (by show (0 : Nat) ≤ 4096; omega)
  have u := tuL_r (ltT T)
  unfold ptS
  rw [← hT]
  unfold mdT fxT2 stT
  split
  · rw [List.length_append, List.length_append, List.length_append, nbL_len, nbL_len, sbL_len]
    unfold padB
    rw [List.length_append, List.length_append, List.length_append, nbL_len, List.length_replicate]
    simp only [List.length_cons, List.length_nil]
    omega
  · rename_i c
    split
    · rename_i c2
      rw [List.length_append, List.length_append, List.length_append, nbL_len]
      simp only [List.length_cons, List.length_nil]
      omega
    · rename_i c2
      rw [List.length_append, List.length_append, List.length_append]
      simp only [List.length_cons, List.length_nil]
      omega
end PART
