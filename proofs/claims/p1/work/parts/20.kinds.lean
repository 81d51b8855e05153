/-! TABLES, printed by wip/gen/gen.py: words and kinds -/
def Tg : List Cond := lw_tbl.filter goodWord
def eg_isN (w : Cond) : Bool := match w with
  | .fieldLinkNest _ _ _ _ _ _ => true
  | .methodLinkNest _ _ _ _ => true
  | _ => false
def Tn : List Cond := tables_1.filter eg_isN
theorem tg_t0 {w : Cond} (h : w ∈ tables_1) (g : goodWord w = true) : w ∈ Tg := List.mem_filter.mpr ⟨List.mem_append_right _ h, g⟩
theorem tg_s (i : Nat) {w : Cond} (h : (k2_sels lw_privs)[i]? = some w) (g : goodWord w = true) : w ∈ Tg := List.mem_filter.mpr ⟨List.mem_append_left _ (List.mem_of_getElem? h), g⟩
theorem tn_t0 {w : Cond} (h : w ∈ tables_1) (g : eg_isN w = true) : w ∈ Tn := List.mem_filter.mpr ⟨h, g⟩
theorem Tg_good : ∀ w ∈ Tg, ((w.onTables && w.keeps) = true ∨ ∃ ty, w = .arrayClass ty) := fun w h => good_of_word (List.mem_filter.mp h).2
theorem Tn_nest : ∀ w ∈ Tn, eg_nw2 w := by
  intro w h
  have h2 := (List.mem_filter.mp h).2
  cases w <;> first | exact Or.inl ⟨_, _, _, _, _, _, rfl⟩ | exact Or.inr ⟨_, _, _, _, rfl⟩ | cases h2
theorem tg_t1 (i : Nat) {w : Cond} (h : tables_1_1[i]? = some w) (g : goodWord w = true) : w ∈ Tg := tg_t0 (List.mem_append_left _ (List.mem_of_getElem? h)) g
theorem tn_t1 (i : Nat) {w : Cond} (h : tables_1_1[i]? = some w) (g : eg_isN w = true) : w ∈ Tn := tn_t0 (List.mem_append_left _ (List.mem_of_getElem? h)) g
theorem tg_t2 (i : Nat) {w : Cond} (h : tables_1_2[i]? = some w) (g : goodWord w = true) : w ∈ Tg := tg_t0 (List.mem_append_right _ (List.mem_append_left _ (List.mem_of_getElem? h))) g
theorem tn_t2 (i : Nat) {w : Cond} (h : tables_1_2[i]? = some w) (g : eg_isN w = true) : w ∈ Tn := tn_t0 (List.mem_append_right _ (List.mem_append_left _ (List.mem_of_getElem? h))) g
theorem tg_t3 (i : Nat) {w : Cond} (h : tables_1_3[i]? = some w) (g : goodWord w = true) : w ∈ Tg := tg_t0 (List.mem_append_right _ (List.mem_append_right _ (List.mem_append_left _ (List.mem_of_getElem? h)))) g
theorem tn_t3 (i : Nat) {w : Cond} (h : tables_1_3[i]? = some w) (g : eg_isN w = true) : w ∈ Tn := tn_t0 (List.mem_append_right _ (List.mem_append_right _ (List.mem_append_left _ (List.mem_of_getElem? h)))) g
theorem tg_t4 (i : Nat) {w : Cond} (h : tables_1_4[i]? = some w) (g : goodWord w = true) : w ∈ Tg := tg_t0 (List.mem_append_right _ (List.mem_append_right _ (List.mem_append_right _ (List.mem_append_left _ (List.mem_of_getElem? h))))) g
theorem tn_t4 (i : Nat) {w : Cond} (h : tables_1_4[i]? = some w) (g : eg_isN w = true) : w ∈ Tn := tn_t0 (List.mem_append_right _ (List.mem_append_right _ (List.mem_append_right _ (List.mem_append_left _ (List.mem_of_getElem? h))))) g
theorem tg_t5 (i : Nat) {w : Cond} (h : tables_1_5[i]? = some w) (g : goodWord w = true) : w ∈ Tg := tg_t0 (List.mem_append_right _ (List.mem_append_right _ (List.mem_append_right _ (List.mem_append_right _ (List.mem_append_left _ (List.mem_of_getElem? h)))))) g
theorem tn_t5 (i : Nat) {w : Cond} (h : tables_1_5[i]? = some w) (g : eg_isN w = true) : w ∈ Tn := tn_t0 (List.mem_append_right _ (List.mem_append_right _ (List.mem_append_right _ (List.mem_append_right _ (List.mem_append_left _ (List.mem_of_getElem? h)))))) g
theorem tg_t6 (i : Nat) {w : Cond} (h : tables_1_6[i]? = some w) (g : goodWord w = true) : w ∈ Tg := tg_t0 (List.mem_append_right _ (List.mem_append_right _ (List.mem_append_right _ (List.mem_append_right _ (List.mem_append_right _ (List.mem_append_left _ (List.mem_of_getElem? h))))))) g
theorem tn_t6 (i : Nat) {w : Cond} (h : tables_1_6[i]? = some w) (g : eg_isN w = true) : w ∈ Tn := tn_t0 (List.mem_append_right _ (List.mem_append_right _ (List.mem_append_right _ (List.mem_append_right _ (List.mem_append_right _ (List.mem_append_left _ (List.mem_of_getElem? h))))))) g
theorem tg_t7 (i : Nat) {w : Cond} (h : tables_1_7[i]? = some w) (g : goodWord w = true) : w ∈ Tg := tg_t0 (List.mem_append_right _ (List.mem_append_right _ (List.mem_append_right _ (List.mem_append_right _ (List.mem_append_right _ (List.mem_append_right _ (List.mem_append_left _ (List.mem_of_getElem? h)))))))) g
theorem tn_t7 (i : Nat) {w : Cond} (h : tables_1_7[i]? = some w) (g : eg_isN w = true) : w ∈ Tn := tn_t0 (List.mem_append_right _ (List.mem_append_right _ (List.mem_append_right _ (List.mem_append_right _ (List.mem_append_right _ (List.mem_append_right _ (List.mem_append_left _ (List.mem_of_getElem? h)))))))) g
theorem tg_t8 (i : Nat) {w : Cond} (h : tables_1_8[i]? = some w) (g : goodWord w = true) : w ∈ Tg := tg_t0 (List.mem_append_right _ (List.mem_append_right _ (List.mem_append_right _ (List.mem_append_right _ (List.mem_append_right _ (List.mem_append_right _ (List.mem_append_right _ (List.mem_append_left _ (List.mem_of_getElem? h))))))))) g
theorem tn_t8 (i : Nat) {w : Cond} (h : tables_1_8[i]? = some w) (g : eg_isN w = true) : w ∈ Tn := tn_t0 (List.mem_append_right _ (List.mem_append_right _ (List.mem_append_right _ (List.mem_append_right _ (List.mem_append_right _ (List.mem_append_right _ (List.mem_append_right _ (List.mem_append_left _ (List.mem_of_getElem? h))))))))) g
theorem tg_t9 (i : Nat) {w : Cond} (h : tables_1_9[i]? = some w) (g : goodWord w = true) : w ∈ Tg := tg_t0 (List.mem_append_right _ (List.mem_append_right _ (List.mem_append_right _ (List.mem_append_right _ (List.mem_append_right _ (List.mem_append_right _ (List.mem_append_right _ (List.mem_append_right _ (List.mem_append_left _ (List.mem_of_getElem? h)))))))))) g
theorem tn_t9 (i : Nat) {w : Cond} (h : tables_1_9[i]? = some w) (g : eg_isN w = true) : w ∈ Tn := tn_t0 (List.mem_append_right _ (List.mem_append_right _ (List.mem_append_right _ (List.mem_append_right _ (List.mem_append_right _ (List.mem_append_right _ (List.mem_append_right _ (List.mem_append_right _ (List.mem_append_left _ (List.mem_of_getElem? h)))))))))) g
theorem tg_t10 (i : Nat) {w : Cond} (h : tables_1_10[i]? = some w) (g : goodWord w = true) : w ∈ Tg := tg_t0 (List.mem_append_right _ (List.mem_append_right _ (List.mem_append_right _ (List.mem_append_right _ (List.mem_append_right _ (List.mem_append_right _ (List.mem_append_right _ (List.mem_append_right _ (List.mem_append_right _ (List.mem_append_left _ (List.mem_of_getElem? h))))))))))) g
theorem tn_t10 (i : Nat) {w : Cond} (h : tables_1_10[i]? = some w) (g : eg_isN w = true) : w ∈ Tn := tn_t0 (List.mem_append_right _ (List.mem_append_right _ (List.mem_append_right _ (List.mem_append_right _ (List.mem_append_right _ (List.mem_append_right _ (List.mem_append_right _ (List.mem_append_right _ (List.mem_append_right _ (List.mem_append_left _ (List.mem_of_getElem? h))))))))))) g
theorem tg_t11 (i : Nat) {w : Cond} (h : tables_1_11[i]? = some w) (g : goodWord w = true) : w ∈ Tg := tg_t0 (List.mem_append_right _ (List.mem_append_right _ (List.mem_append_right _ (List.mem_append_right _ (List.mem_append_right _ (List.mem_append_right _ (List.mem_append_right _ (List.mem_append_right _ (List.mem_append_right _ (List.mem_append_right _ (List.mem_append_left _ (List.mem_of_getElem? h)))))))))))) g
theorem tn_t11 (i : Nat) {w : Cond} (h : tables_1_11[i]? = some w) (g : eg_isN w = true) : w ∈ Tn := tn_t0 (List.mem_append_right _ (List.mem_append_right _ (List.mem_append_right _ (List.mem_append_right _ (List.mem_append_right _ (List.mem_append_right _ (List.mem_append_right _ (List.mem_append_right _ (List.mem_append_right _ (List.mem_append_right _ (List.mem_append_left _ (List.mem_of_getElem? h)))))))))))) g
theorem tg_t12 (i : Nat) {w : Cond} (h : tables_1_12[i]? = some w) (g : goodWord w = true) : w ∈ Tg := tg_t0 (List.mem_append_right _ (List.mem_append_right _ (List.mem_append_right _ (List.mem_append_right _ (List.mem_append_right _ (List.mem_append_right _ (List.mem_append_right _ (List.mem_append_right _ (List.mem_append_right _ (List.mem_append_right _ (List.mem_append_right _ (List.mem_of_getElem? h)))))))))))) g
theorem tn_t12 (i : Nat) {w : Cond} (h : tables_1_12[i]? = some w) (g : eg_isN w = true) : w ∈ Tn := tn_t0 (List.mem_append_right _ (List.mem_append_right _ (List.mem_append_right _ (List.mem_append_right _ (List.mem_append_right _ (List.mem_append_right _ (List.mem_append_right _ (List.mem_append_right _ (List.mem_append_right _ (List.mem_append_right _ (List.mem_append_right _ (List.mem_of_getElem? h)))))))))))) g
def kT0 : u_T := fun k => match k with
  | 0 => ("FrozenVolume", "tape", "LFrozenVolume$Row;", true)
  | 1 => ("FrozenVolume", "out", "LFrozenVolume$Row;", true)
  | 2 => ("FrozenVolume", "tree", "LFrozenVolume$Tree;", true)
  | 3 => ("FrozenVolume", "freezer", "LFrozenVolume$Freezer;", true)
  | 4 => ("FrozenVolume", "volume", "LFrozenVolume$Volume;", true)
  | 5 => ("FrozenVolume", "fed", "Z", false)
  | 6 => ("FrozenVolume", "mounted", "Z", false)
  | _ => ("FrozenVolume", "stray", "I", false)
def kY0 : Nat → FieldType := fun k => match k with
  | 0 => .object "FrozenVolume$Row"
  | 1 => .object "FrozenVolume$Row"
  | 2 => .object "FrozenVolume$Tree"
  | 3 => .object "FrozenVolume$Freezer"
  | 4 => .object "FrozenVolume$Volume"
  | 5 => .boolean
  | 6 => .boolean
  | _ => .int
def kT1 : u_T := fun k => match k with
  | 0 => ("FrozenVolume$Row", "bytes", "[B", true)
  | 1 => ("FrozenVolume$Row", "size", "I", false)
  | _ => ("FrozenVolume$Row", "over", "Z", false)
def kY1 : Nat → FieldType := fun k => match k with
  | 0 => .array (.byte)
  | 1 => .int
  | _ => .boolean
def kT2 : u_T := fun k => match k with
  | 0 => ("FrozenVolume$Tree", "files", "LFrozenVolume$Row;", true)
  | 1 => ("FrozenVolume$Tree", "nodes", "[LFrozenVolume$Node;", true)
  | 2 => ("FrozenVolume$Tree", "made", "I", false)
  | 3 => ("FrozenVolume$Tree", "folders", "[LFrozenVolume$Node;", true)
  | 4 => ("FrozenVolume$Tree", "children", "[LFrozenVolume$Node;", true)
  | 5 => ("FrozenVolume$Tree", "names", "[LFrozenVolume$Row;", true)
  | 6 => ("FrozenVolume$Tree", "noName", "LFrozenVolume$Row;", true)
  | 7 => ("FrozenVolume$Tree", "entries", "I", false)
  | 8 => ("FrozenVolume$Tree", "nameBytes", "I", false)
  | _ => ("FrozenVolume$Tree", "targetBytes", "I", false)
def kY2 : Nat → FieldType := fun k => match k with
  | 0 => .object "FrozenVolume$Row"
  | 1 => .array (.object "FrozenVolume$Node")
  | 2 => .int
  | 3 => .array (.object "FrozenVolume$Node")
  | 4 => .array (.object "FrozenVolume$Node")
  | 5 => .array (.object "FrozenVolume$Row")
  | 6 => .object "FrozenVolume$Row"
  | 7 => .int
  | 8 => .int
  | _ => .int
def kT3 : u_T := fun k => match k with
  | 0 => ("FrozenVolume$Node", "id", "I", true)
  | 1 => ("FrozenVolume$Node", "kind", "I", true)
  | 2 => ("FrozenVolume$Node", "device", "I", true)
  | 3 => ("FrozenVolume$Node", "home", "LFrozenVolume$Node;", true)
  | 4 => ("FrozenVolume$Node", "depth", "I", true)
  | 5 => ("FrozenVolume$Node", "mode", "I", false)
  | 6 => ("FrozenVolume$Node", "owner", "I", false)
  | 7 => ("FrozenVolume$Node", "group", "I", false)
  | 8 => ("FrozenVolume$Node", "time", "I", false)
  | 9 => ("FrozenVolume$Node", "links", "I", false)
  | 10 => ("FrozenVolume$Node", "entries", "I", false)
  | 11 => ("FrozenVolume$Node", "at", "I", false)
  | 12 => ("FrozenVolume$Node", "size", "I", false)
  | 13 => ("FrozenVolume$Node", "target", "LFrozenVolume$Row;", false)
  | 14 => ("FrozenVolume$Node", "inode", "I", false)
  | 15 => ("FrozenVolume$Node", "reference", "J", false)
  | 16 => ("FrozenVolume$Node", "begin", "I", false)
  | 17 => ("FrozenVolume$Node", "firstBlock", "I", false)
  | 18 => ("FrozenVolume$Node", "fragment", "I", false)
  | _ => ("FrozenVolume$Node", "offset", "I", false)
def kY3 : Nat → FieldType := fun k => match k with
  | 0 => .int
  | 1 => .int
  | 2 => .int
  | 3 => .object "FrozenVolume$Node"
  | 4 => .int
  | 5 => .int
  | 6 => .int
  | 7 => .int
  | 8 => .int
  | 9 => .int
  | 10 => .int
  | 11 => .int
  | 12 => .int
  | 13 => .object "FrozenVolume$Row"
  | 14 => .int
  | 15 => .long
  | 16 => .int
  | 17 => .int
  | 18 => .int
  | _ => .int
def kT4 : u_T := fun k => match k with
  | 0 => ("FrozenVolume$Freezer", "next", "LFrozenVolume$Row;", true)
  | 1 => ("FrozenVolume$Freezer", "nodes", "[LFrozenVolume$Node;", true)
  | 2 => ("FrozenVolume$Freezer", "count", "I", false)
  | 3 => ("FrozenVolume$Freezer", "packer", "LFrozenVolume$Packer;", true)
  | 4 => ("FrozenVolume$Freezer", "inodes", "LFrozenVolume$PieceRow;", true)
  | 5 => ("FrozenVolume$Freezer", "folders", "LFrozenVolume$PieceRow;", true)
  | 6 => ("FrozenVolume$Freezer", "fragments", "LFrozenVolume$PieceRow;", true)
  | 7 => ("FrozenVolume$Freezer", "exports", "LFrozenVolume$PieceRow;", true)
  | 8 => ("FrozenVolume$Freezer", "ids", "LFrozenVolume$PieceRow;", true)
  | 9 => ("FrozenVolume$Freezer", "folderPieces", "LFrozenVolume$Row;", true)
  | 10 => ("FrozenVolume$Freezer", "fragment", "LFrozenVolume$Row;", true)
  | 11 => ("FrozenVolume$Freezer", "blocks", "LFrozenVolume$Row;", true)
  | 12 => ("FrozenVolume$Freezer", "indexes", "LFrozenVolume$Row;", true)
  | 13 => ("FrozenVolume$Freezer", "indexCount", "I", false)
  | 14 => ("FrozenVolume$Freezer", "listing", "I", false)
  | 15 => ("FrozenVolume$Freezer", "walked", "[I", true)
  | 16 => ("FrozenVolume$Freezer", "block", "I", false)
  | 17 => ("FrozenVolume$Freezer", "options", "I", false)
  | _ => ("FrozenVolume$Freezer", "inodesAt", "I", false)
def kY4 : Nat → FieldType := fun k => match k with
  | 0 => .object "FrozenVolume$Row"
  | 1 => .array (.object "FrozenVolume$Node")
  | 2 => .int
  | 3 => .object "FrozenVolume$Packer"
  | 4 => .object "FrozenVolume$PieceRow"
  | 5 => .object "FrozenVolume$PieceRow"
  | 6 => .object "FrozenVolume$PieceRow"
  | 7 => .object "FrozenVolume$PieceRow"
  | 8 => .object "FrozenVolume$PieceRow"
  | 9 => .object "FrozenVolume$Row"
  | 10 => .object "FrozenVolume$Row"
  | 11 => .object "FrozenVolume$Row"
  | 12 => .object "FrozenVolume$Row"
  | 13 => .int
  | 14 => .int
  | 15 => .array (.int)
  | 16 => .int
  | 17 => .int
  | _ => .int
def kT5 : u_T := fun k => match k with
  | 0 => ("FrozenVolume$Packer", "packed", "LFrozenVolume$Row;", true)
  | 1 => ("FrozenVolume$Packer", "heads", "[I", true)
  | 2 => ("FrozenVolume$Packer", "before", "[I", true)
  | 3 => ("FrozenVolume$Packer", "known", "I", false)
  | 4 => ("FrozenVolume$Packer", "mask", "I", false)
  | 5 => ("FrozenVolume$Packer", "tokenLengths", "[I", true)
  | 6 => ("FrozenVolume$Packer", "tokenValues", "[I", true)
  | 7 => ("FrozenVolume$Packer", "tokens", "I", false)
  | 8 => ("FrozenVolume$Packer", "symbols", "LFrozenVolume$Code;", true)
  | 9 => ("FrozenVolume$Packer", "distances", "LFrozenVolume$Code;", true)
  | 10 => ("FrozenVolume$Packer", "tellers", "LFrozenVolume$Code;", true)
  | 11 => ("FrozenVolume$Packer", "fixedSymbols", "LFrozenVolume$Code;", true)
  | 12 => ("FrozenVolume$Packer", "fixedDistances", "LFrozenVolume$Code;", true)
  | 13 => ("FrozenVolume$Packer", "told", "[I", true)
  | 14 => ("FrozenVolume$Packer", "tolds", "I", false)
  | 15 => ("FrozenVolume$Packer", "ranked", "[I", true)
  | 16 => ("FrozenVolume$Packer", "weights", "[I", true)
  | 17 => ("FrozenVolume$Packer", "pairs", "[Z", true)
  | 18 => ("FrozenVolume$Packer", "hold", "I", false)
  | _ => ("FrozenVolume$Packer", "held", "I", false)
def kY5 : Nat → FieldType := fun k => match k with
  | 0 => .object "FrozenVolume$Row"
  | 1 => .array (.int)
  | 2 => .array (.int)
  | 3 => .int
  | 4 => .int
  | 5 => .array (.int)
  | 6 => .array (.int)
  | 7 => .int
  | 8 => .object "FrozenVolume$Code"
  | 9 => .object "FrozenVolume$Code"
  | 10 => .object "FrozenVolume$Code"
  | 11 => .object "FrozenVolume$Code"
  | 12 => .object "FrozenVolume$Code"
  | 13 => .array (.int)
  | 14 => .int
  | 15 => .array (.int)
  | 16 => .array (.int)
  | 17 => .array (.boolean)
  | 18 => .int
  | _ => .int
def kT6 : u_T := fun k => match k with
  | 0 => ("FrozenVolume$Code", "counts", "[I", true)
  | 1 => ("FrozenVolume$Code", "lengths", "[I", true)
  | 2 => ("FrozenVolume$Code", "codes", "[I", true)
  | 3 => ("FrozenVolume$Code", "ranked", "[I", true)
  | 4 => ("FrozenVolume$Code", "perLength", "[I", true)
  | _ => ("FrozenVolume$Code", "firsts", "[I", true)
def kY6 : Nat → FieldType := fun k => match k with
  | 0 => .array (.int)
  | 1 => .array (.int)
  | 2 => .array (.int)
  | 3 => .array (.int)
  | 4 => .array (.int)
  | _ => .array (.int)
def kT7 : u_T := fun k => match k with
  | 0 => ("FrozenVolume$PieceRow", "row", "LFrozenVolume$Row;", true)
  | 1 => ("FrozenVolume$PieceRow", "starts", "[I", true)
  | _ => ("FrozenVolume$PieceRow", "pieces", "I", false)
def kY7 : Nat → FieldType := fun k => match k with
  | 0 => .object "FrozenVolume$Row"
  | 1 => .array (.int)
  | _ => .int
def kT8 : u_T := fun k => match k with
  | 0 => ("FrozenVolume$Volume", "image", "LFrozenVolume$Row;", true)
  | 1 => ("FrozenVolume$Volume", "listings", "LFrozenVolume$Listings;", true)
  | 2 => ("FrozenVolume$Volume", "inodes", "LFrozenVolume$Inodes;", true)
  | 3 => ("FrozenVolume$Volume", "fragments", "LFrozenVolume$PieceRow;", true)
  | 4 => ("FrozenVolume$Volume", "exports", "LFrozenVolume$PieceRow;", true)
  | 5 => ("FrozenVolume$Volume", "ids", "LFrozenVolume$PieceRow;", true)
  | 6 => ("FrozenVolume$Volume", "unpacker", "LFrozenVolume$Unpacker;", true)
  | 7 => ("FrozenVolume$Volume", "loaded", "[B", true)
  | 8 => ("FrozenVolume$Volume", "fragmentSizes", "[I", true)
  | 9 => ("FrozenVolume$Volume", "block", "I", false)
  | 10 => ("FrozenVolume$Volume", "inodeCount", "I", false)
  | 11 => ("FrozenVolume$Volume", "fragmentCount", "I", false)
  | 12 => ("FrozenVolume$Volume", "idCount", "I", false)
  | 13 => ("FrozenVolume$Volume", "exported", "Z", false)
  | 14 => ("FrozenVolume$Volume", "used", "I", false)
  | 15 => ("FrozenVolume$Volume", "inodesAt", "I", false)
  | 16 => ("FrozenVolume$Volume", "foldersAt", "I", false)
  | _ => ("FrozenVolume$Volume", "root", "I", false)
def kY8 : Nat → FieldType := fun k => match k with
  | 0 => .object "FrozenVolume$Row"
  | 1 => .object "FrozenVolume$Listings"
  | 2 => .object "FrozenVolume$Inodes"
  | 3 => .object "FrozenVolume$PieceRow"
  | 4 => .object "FrozenVolume$PieceRow"
  | 5 => .object "FrozenVolume$PieceRow"
  | 6 => .object "FrozenVolume$Unpacker"
  | 7 => .array (.byte)
  | 8 => .array (.int)
  | 9 => .int
  | 10 => .int
  | 11 => .int
  | 12 => .int
  | 13 => .boolean
  | 14 => .int
  | 15 => .int
  | 16 => .int
  | _ => .int
def kT9 : u_T := fun k => match k with
  | 0 => ("FrozenVolume$Listings", "inodes", "LFrozenVolume$Inodes;", true)
  | 1 => ("FrozenVolume$Listings", "pieces", "LFrozenVolume$PieceRow;", true)
  | 2 => ("FrozenVolume$Listings", "row", "LFrozenVolume$Row;", true)
  | 3 => ("FrozenVolume$Listings", "begin", "I", false)
  | 4 => ("FrozenVolume$Listings", "at", "I", false)
  | 5 => ("FrozenVolume$Listings", "stop", "I", false)
  | 6 => ("FrozenVolume$Listings", "head", "I", false)
  | 7 => ("FrozenVolume$Listings", "left", "I", false)
  | 8 => ("FrozenVolume$Listings", "inodePiece", "I", false)
  | 9 => ("FrozenVolume$Listings", "base", "J", false)
  | 10 => ("FrozenVolume$Listings", "nameAt", "I", false)
  | 11 => ("FrozenVolume$Listings", "nameSize", "I", false)
  | 12 => ("FrozenVolume$Listings", "entryAt", "I", false)
  | 13 => ("FrozenVolume$Listings", "ties", "[I", true)
  | 14 => ("FrozenVolume$Listings", "homes", "[I", true)
  | 15 => ("FrozenVolume$Listings", "entries", "[I", true)
  | _ => ("FrozenVolume$Listings", "folders", "[I", true)
def kY9 : Nat → FieldType := fun k => match k with
  | 0 => .object "FrozenVolume$Inodes"
  | 1 => .object "FrozenVolume$PieceRow"
  | 2 => .object "FrozenVolume$Row"
  | 3 => .int
  | 4 => .int
  | 5 => .int
  | 6 => .int
  | 7 => .int
  | 8 => .int
  | 9 => .long
  | 10 => .int
  | 11 => .int
  | 12 => .int
  | 13 => .array (.int)
  | 14 => .array (.int)
  | 15 => .array (.int)
  | _ => .array (.int)
def kT10 : u_T := fun k => match k with
  | 0 => ("FrozenVolume$Inodes", "pieces", "LFrozenVolume$PieceRow;", true)
  | 1 => ("FrozenVolume$Inodes", "row", "LFrozenVolume$Row;", true)
  | 2 => ("FrozenVolume$Inodes", "count", "I", false)
  | 3 => ("FrozenVolume$Inodes", "block", "I", false)
  | 4 => ("FrozenVolume$Inodes", "begins", "[I", true)
  | 5 => ("FrozenVolume$Inodes", "numbers", "[I", true)
  | _ => ("FrozenVolume$Inodes", "places", "[I", true)
def kY10 : Nat → FieldType := fun k => match k with
  | 0 => .object "FrozenVolume$PieceRow"
  | 1 => .object "FrozenVolume$Row"
  | 2 => .int
  | 3 => .int
  | 4 => .array (.int)
  | 5 => .array (.int)
  | _ => .array (.int)
def kT11 : u_T := fun k => match k with
  | 0 => ("FrozenVolume$Unpacker", "source", "[B", false)
  | 1 => ("FrozenVolume$Unpacker", "bit", "I", false)
  | 2 => ("FrozenVolume$Unpacker", "stop", "I", false)
  | 3 => ("FrozenVolume$Unpacker", "made", "[B", false)
  | 4 => ("FrozenVolume$Unpacker", "begin", "I", false)
  | 5 => ("FrozenVolume$Unpacker", "at", "I", false)
  | 6 => ("FrozenVolume$Unpacker", "limit", "I", false)
  | 7 => ("FrozenVolume$Unpacker", "window", "I", false)
  | 8 => ("FrozenVolume$Unpacker", "failed", "Z", false)
  | 9 => ("FrozenVolume$Unpacker", "symbols", "LFrozenVolume$Code;", true)
  | 10 => ("FrozenVolume$Unpacker", "distances", "LFrozenVolume$Code;", true)
  | 11 => ("FrozenVolume$Unpacker", "tellers", "LFrozenVolume$Code;", true)
  | 12 => ("FrozenVolume$Unpacker", "fixedSymbols", "LFrozenVolume$Code;", true)
  | 13 => ("FrozenVolume$Unpacker", "fixedDistances", "LFrozenVolume$Code;", true)
  | 14 => ("FrozenVolume$Unpacker", "lengths", "[I", true)
  | 15 => ("FrozenVolume$Unpacker", "symbolCount", "I", false)
  | _ => ("FrozenVolume$Unpacker", "distanceCount", "I", false)
def kY11 : Nat → FieldType := fun k => match k with
  | 0 => .array (.byte)
  | 1 => .int
  | 2 => .int
  | 3 => .array (.byte)
  | 4 => .int
  | 5 => .int
  | 6 => .int
  | 7 => .int
  | 8 => .boolean
  | 9 => .object "FrozenVolume$Code"
  | 10 => .object "FrozenVolume$Code"
  | 11 => .object "FrozenVolume$Code"
  | 12 => .object "FrozenVolume$Code"
  | 13 => .object "FrozenVolume$Code"
  | 14 => .array (.int)
  | 15 => .int
  | _ => .int
def kT12 : u_T := fun k => match k with
  | 0 => ("FrozenVolumeModel", "tape", "[B", true)
  | 1 => ("FrozenVolumeModel", "tapeSize", "I", false)
  | 2 => ("FrozenVolumeModel", "fed", "Z", false)
  | 3 => ("FrozenVolumeModel", "out", "[B", true)
  | 4 => ("FrozenVolumeModel", "outSize", "I", false)
  | 5 => ("FrozenVolumeModel", "nodes", "I", false)
  | 6 => ("FrozenVolumeModel", "kind", "[I", true)
  | 7 => ("FrozenVolumeModel", "mode", "[I", true)
  | 8 => ("FrozenVolumeModel", "owner", "[I", true)
  | 9 => ("FrozenVolumeModel", "group", "[I", true)
  | 10 => ("FrozenVolumeModel", "time", "[I", true)
  | 11 => ("FrozenVolumeModel", "device", "[I", true)
  | 12 => ("FrozenVolumeModel", "ties", "[I", true)
  | 13 => ("FrozenVolumeModel", "parent", "[I", true)
  | 14 => ("FrozenVolumeModel", "at", "[I", true)
  | 15 => ("FrozenVolumeModel", "size", "[I", true)
  | 16 => ("FrozenVolumeModel", "bytes", "[B", true)
  | 17 => ("FrozenVolumeModel", "allBytes", "I", false)
  | 18 => ("FrozenVolumeModel", "targets", "[B", true)
  | 19 => ("FrozenVolumeModel", "allTargets", "I", false)
  | 20 => ("FrozenVolumeModel", "entries", "I", false)
  | 21 => ("FrozenVolumeModel", "folder", "[I", true)
  | 22 => ("FrozenVolumeModel", "leads", "[I", true)
  | 23 => ("FrozenVolumeModel", "nameAt", "[I", true)
  | 24 => ("FrozenVolumeModel", "nameSize", "[I", true)
  | 25 => ("FrozenVolumeModel", "names", "[B", true)
  | 26 => ("FrozenVolumeModel", "allNames", "I", false)
  | 27 => ("FrozenVolumeModel", "packed", "[B", true)
  | 28 => ("FrozenVolumeModel", "packedBits", "I", false)
  | 29 => ("FrozenVolumeModel", "pairBefore", "[I", true)
  | 30 => ("FrozenVolumeModel", "pairLast", "[I", true)
  | 31 => ("FrozenVolumeModel", "tokens", "I", false)
  | 32 => ("FrozenVolumeModel", "tokenLength", "[I", true)
  | 33 => ("FrozenVolumeModel", "tokenValue", "[I", true)
  | 34 => ("FrozenVolumeModel", "counts", "[I", true)
  | 35 => ("FrozenVolumeModel", "lengths", "[I", true)
  | 36 => ("FrozenVolumeModel", "fixed", "[I", true)
  | 37 => ("FrozenVolumeModel", "ranked", "[I", true)
  | 38 => ("FrozenVolumeModel", "weight", "[I", true)
  | 39 => ("FrozenVolumeModel", "weightBefore", "[I", true)
  | 40 => ("FrozenVolumeModel", "items", "[I", true)
  | 41 => ("FrozenVolumeModel", "lengthRow", "[I", true)
  | 42 => ("FrozenVolumeModel", "steps", "I", false)
  | 43 => ("FrozenVolumeModel", "step", "[I", true)
  | 44 => ("FrozenVolumeModel", "stepMore", "[I", true)
  | 45 => ("FrozenVolumeModel", "codes", "[I", true)
  | 46 => ("FrozenVolumeModel", "symbolTree", "LFrozenVolumeModel$Tree;", true)
  | 47 => ("FrozenVolumeModel", "distanceTree", "LFrozenVolumeModel$Tree;", true)
  | 48 => ("FrozenVolumeModel", "smallTree", "LFrozenVolumeModel$Tree;", true)
  | 49 => ("FrozenVolumeModel", "readLengths", "[I", true)
  | 50 => ("FrozenVolumeModel", "source", "[B", false)
  | 51 => ("FrozenVolumeModel", "sourceFrom", "I", false)
  | 52 => ("FrozenVolumeModel", "sourceBits", "I", false)
  | 53 => ("FrozenVolumeModel", "readBits", "I", false)
  | 54 => ("FrozenVolumeModel", "wrong", "Z", false)
  | 55 => ("FrozenVolumeModel", "target", "[B", false)
  | 56 => ("FrozenVolumeModel", "made", "I", false)
  | 57 => ("FrozenVolumeModel", "room", "I", false)
  | 58 => ("FrozenVolumeModel", "image", "[B", true)
  | 59 => ("FrozenVolumeModel", "imageSize", "I", false)
  | 60 => ("FrozenVolumeModel", "build", "[B", true)
  | 61 => ("FrozenVolumeModel", "buildSize", "I", false)
  | 62 => ("FrozenVolumeModel", "tooMuch", "Z", false)
  | 63 => ("FrozenVolumeModel", "numbered", "I", false)
  | 64 => ("FrozenVolumeModel", "ordered", "[I", true)
  | 65 => ("FrozenVolumeModel", "numberOf", "[I", true)
  | 66 => ("FrozenVolumeModel", "ids", "I", false)
  | 67 => ("FrozenVolumeModel", "id", "[I", true)
  | 68 => ("FrozenVolumeModel", "block", "I", false)
  | 69 => ("FrozenVolumeModel", "options", "I", false)
  | 70 => ("FrozenVolumeModel", "begin", "[J", true)
  | 71 => ("FrozenVolumeModel", "fragmentOf", "[I", true)
  | 72 => ("FrozenVolumeModel", "offsetOf", "[I", true)
  | 73 => ("FrozenVolumeModel", "blocksAt", "[I", true)
  | 74 => ("FrozenVolumeModel", "blocksOf", "[I", true)
  | 75 => ("FrozenVolumeModel", "zerosOf", "[I", true)
  | 76 => ("FrozenVolumeModel", "allBlocks", "I", false)
  | 77 => ("FrozenVolumeModel", "blockNumber", "[I", true)
  | 78 => ("FrozenVolumeModel", "fragments", "I", false)
  | 79 => ("FrozenVolumeModel", "fragmentBegin", "[I", true)
  | 80 => ("FrozenVolumeModel", "fragmentNumber", "[I", true)
  | 81 => ("FrozenVolumeModel", "fragment", "[B", true)
  | 82 => ("FrozenVolumeModel", "fragmentSize", "I", false)
  | 83 => ("FrozenVolumeModel", "inodes", "LFrozenVolumeModel$Row;", true)
  | 84 => ("FrozenVolumeModel", "listings", "LFrozenVolumeModel$Row;", true)
  | 85 => ("FrozenVolumeModel", "inodeAt", "[I", true)
  | 86 => ("FrozenVolumeModel", "indexes", "I", false)
  | 87 => ("FrozenVolumeModel", "indexPlace", "[I", true)
  | 88 => ("FrozenVolumeModel", "indexStart", "[I", true)
  | 89 => ("FrozenVolumeModel", "indexEntry", "[I", true)
  | 90 => ("FrozenVolumeModel", "astray", "I", false)
  | 91 => ("FrozenVolumeModel", "mounted", "Z", false)
  | 92 => ("FrozenVolumeModel", "inodeCount", "I", false)
  | 93 => ("FrozenVolumeModel", "mountedBlock", "I", false)
  | 94 => ("FrozenVolumeModel", "fragmentCount", "I", false)
  | 95 => ("FrozenVolumeModel", "idCount", "I", false)
  | 96 => ("FrozenVolumeModel", "root", "J", false)
  | 97 => ("FrozenVolumeModel", "used", "I", false)
  | 98 => ("FrozenVolumeModel", "inodeBegin", "I", false)
  | 99 => ("FrozenVolumeModel", "listingBegin", "I", false)
  | 100 => ("FrozenVolumeModel", "fragmentList", "J", false)
  | 101 => ("FrozenVolumeModel", "exportList", "J", false)
  | 102 => ("FrozenVolumeModel", "idList", "J", false)
  | 103 => ("FrozenVolumeModel", "inodeRow", "LFrozenVolumeModel$ReadRow;", true)
  | 104 => ("FrozenVolumeModel", "listingRow", "LFrozenVolumeModel$ReadRow;", true)
  | 105 => ("FrozenVolumeModel", "fragmentTable", "LFrozenVolumeModel$ReadRow;", true)
  | 106 => ("FrozenVolumeModel", "exportTable", "LFrozenVolumeModel$ReadRow;", true)
  | 107 => ("FrozenVolumeModel", "idTable", "LFrozenVolumeModel$ReadRow;", true)
  | 108 => ("FrozenVolumeModel", "pieceBytes", "[B", true)
  | 109 => ("FrozenVolumeModel", "inodePlace", "[I", true)
  | 110 => ("FrozenVolumeModel", "inodeHere", "[I", true)
  | 111 => ("FrozenVolumeModel", "listingAt", "I", false)
  | 112 => ("FrozenVolumeModel", "listingEnd", "I", false)
  | 113 => ("FrozenVolumeModel", "entryInode", "I", false)
  | 114 => ("FrozenVolumeModel", "entryName", "I", false)
  | 115 => ("FrozenVolumeModel", "entrySize", "I", false)
  | 116 => ("FrozenVolumeModel", "next", "I", false)
  | 117 => ("FrozenVolumeModel", "left", "I", false)
  | 118 => ("FrozenVolumeModel", "header", "I", false)
  | 119 => ("FrozenVolumeModel", "rootNumber", "I", false)
  | 120 => ("FrozenVolumeModel", "entriesTo", "[I", true)
  | 121 => ("FrozenVolumeModel", "foldersIn", "[I", true)
  | 122 => ("FrozenVolumeModel", "fragmentBytes", "[I", true)
  | 123 => ("FrozenVolumeModel", "blockBytes", "[B", true)
  | 124 => ("FrozenVolumeModel", "fileSize", "J", false)
  | 125 => ("FrozenVolumeModel", "fileBegin", "J", false)
  | 126 => ("FrozenVolumeModel", "fileFragment", "J", false)
  | 127 => ("FrozenVolumeModel", "fileOffset", "J", false)
  | 128 => ("FrozenVolumeModel", "fileBlocks", "I", false)
  | _ => ("FrozenVolumeModel", "fileNumbers", "I", false)
def kY12 : Nat → FieldType := fun k => match k with
  | 0 => .array (.byte)
  | 1 => .int
  | 2 => .boolean
  | 3 => .array (.byte)
  | 4 => .int
  | 5 => .int
  | 6 => .array (.int)
  | 7 => .array (.int)
  | 8 => .array (.int)
  | 9 => .array (.int)
  | 10 => .array (.int)
  | 11 => .array (.int)
  | 12 => .array (.int)
  | 13 => .array (.int)
  | 14 => .array (.int)
  | 15 => .array (.int)
  | 16 => .array (.byte)
  | 17 => .int
  | 18 => .array (.byte)
  | 19 => .int
  | 20 => .int
  | 21 => .array (.int)
  | 22 => .array (.int)
  | 23 => .array (.int)
  | 24 => .array (.int)
  | 25 => .array (.byte)
  | 26 => .int
  | 27 => .array (.byte)
  | 28 => .int
  | 29 => .array (.int)
  | 30 => .array (.int)
  | 31 => .int
  | 32 => .array (.int)
  | 33 => .array (.int)
  | 34 => .array (.int)
  | 35 => .array (.int)
  | 36 => .array (.int)
  | 37 => .array (.int)
  | 38 => .array (.int)
  | 39 => .array (.int)
  | 40 => .array (.int)
  | 41 => .array (.int)
  | 42 => .int
  | 43 => .array (.int)
  | 44 => .array (.int)
  | 45 => .array (.int)
  | 46 => .object "FrozenVolumeModel$Tree"
  | 47 => .object "FrozenVolumeModel$Tree"
  | 48 => .object "FrozenVolumeModel$Tree"
  | 49 => .array (.int)
  | 50 => .array (.byte)
  | 51 => .int
  | 52 => .int
  | 53 => .int
  | 54 => .boolean
  | 55 => .array (.byte)
  | 56 => .int
  | 57 => .int
  | 58 => .array (.byte)
  | 59 => .int
  | 60 => .array (.byte)
  | 61 => .int
  | 62 => .boolean
  | 63 => .int
  | 64 => .array (.int)
  | 65 => .array (.int)
  | 66 => .int
  | 67 => .array (.int)
  | 68 => .int
  | 69 => .int
  | 70 => .array (.long)
  | 71 => .array (.int)
  | 72 => .array (.int)
  | 73 => .array (.int)
  | 74 => .array (.int)
  | 75 => .array (.int)
  | 76 => .int
  | 77 => .array (.int)
  | 78 => .int
  | 79 => .array (.int)
  | 80 => .array (.int)
  | 81 => .array (.byte)
  | 82 => .int
  | 83 => .object "FrozenVolumeModel$Row"
  | 84 => .object "FrozenVolumeModel$Row"
  | 85 => .array (.int)
  | 86 => .int
  | 87 => .array (.int)
  | 88 => .array (.int)
  | 89 => .array (.int)
  | 90 => .int
  | 91 => .boolean
  | 92 => .int
  | 93 => .int
  | 94 => .int
  | 95 => .int
  | 96 => .long
  | 97 => .int
  | 98 => .int
  | 99 => .int
  | 100 => .long
  | 101 => .long
  | 102 => .long
  | 103 => .object "FrozenVolumeModel$ReadRow"
  | 104 => .object "FrozenVolumeModel$ReadRow"
  | 105 => .object "FrozenVolumeModel$ReadRow"
  | 106 => .object "FrozenVolumeModel$ReadRow"
  | 107 => .object "FrozenVolumeModel$ReadRow"
  | 108 => .array (.byte)
  | 109 => .array (.int)
  | 110 => .array (.int)
  | 111 => .int
  | 112 => .int
  | 113 => .int
  | 114 => .int
  | 115 => .int
  | 116 => .int
  | 117 => .int
  | 118 => .int
  | 119 => .int
  | 120 => .array (.int)
  | 121 => .array (.int)
  | 122 => .array (.int)
  | 123 => .array (.byte)
  | 124 => .long
  | 125 => .long
  | 126 => .long
  | 127 => .long
  | 128 => .int
  | _ => .int
def kT13 : u_T := fun k => match k with
  | 0 => ("FrozenVolumeModel$Tree", "next", "[I", true)
  | _ => ("FrozenVolumeModel$Tree", "nodes", "I", false)
def kY13 : Nat → FieldType := fun k => match k with
  | 0 => .array (.int)
  | _ => .int
def kT14 : u_T := fun k => match k with
  | 0 => ("FrozenVolumeModel$Row", "bytes", "[B", true)
  | 1 => ("FrozenVolumeModel$Row", "size", "I", false)
  | 2 => ("FrozenVolumeModel$Row", "starts", "[I", true)
  | 3 => ("FrozenVolumeModel$Row", "pieces", "I", false)
  | 4 => ("FrozenVolumeModel$Row", "closed", "[B", true)
  | 5 => ("FrozenVolumeModel$Row", "closedSize", "I", false)
  | _ => ("FrozenVolumeModel$Row", "full", "Z", false)
def kY14 : Nat → FieldType := fun k => match k with
  | 0 => .array (.byte)
  | 1 => .int
  | 2 => .array (.int)
  | 3 => .int
  | 4 => .array (.byte)
  | 5 => .int
  | _ => .boolean
def kT15 : u_T := fun k => match k with
  | 0 => ("FrozenVolumeModel$ReadRow", "bytes", "[B", true)
  | 1 => ("FrozenVolumeModel$ReadRow", "size", "I", false)
  | 2 => ("FrozenVolumeModel$ReadRow", "pieces", "I", false)
  | 3 => ("FrozenVolumeModel$ReadRow", "starts", "[I", true)
  | _ => ("FrozenVolumeModel$ReadRow", "sizes", "[I", true)
def kY15 : Nat → FieldType := fun k => match k with
  | 0 => .array (.byte)
  | 1 => .int
  | 2 => .int
  | 3 => .array (.int)
  | _ => .array (.int)
def cl : List vw_C := [("FrozenVolume", kT0, 8), ("FrozenVolume$Row", kT1, 3), ("FrozenVolume$Tree", kT2, 10), ("FrozenVolume$Node", kT3, 20), ("FrozenVolume$Freezer", kT4, 19), ("FrozenVolume$Packer", kT5, 20), ("FrozenVolume$Code", kT6, 6), ("FrozenVolume$PieceRow", kT7, 3), ("FrozenVolume$Volume", kT8, 18), ("FrozenVolume$Listings", kT9, 17), ("FrozenVolume$Inodes", kT10, 7), ("FrozenVolume$Unpacker", kT11, 17), ("FrozenVolumeModel", kT12, 130), ("FrozenVolumeModel$Tree", kT13, 2), ("FrozenVolumeModel$Row", kT14, 7), ("FrozenVolumeModel$ReadRow", kT15, 5)]
def kY : Nat → Nat → FieldType := fun c => match c with
  | 0 => kY0
  | 1 => kY1
  | 2 => kY2
  | 3 => kY3
  | 4 => kY4
  | 5 => kY5
  | 6 => kY6
  | 7 => kY7
  | 8 => kY8
  | 9 => kY9
  | 10 => kY10
  | 11 => kY11
  | 12 => kY12
  | 13 => kY13
  | 14 => kY14
  | _ => kY15
def Zs : eg_Z := ([("FrozenVolume", "TELLERS", "[I", .ref 1), ("FrozenVolume$Inodes", "FIXED", "[I", .ref 2)], ["FrozenVolume$Node", "FrozenVolume$Row"])
theorem kW0 : ∀ w ∈ u_ws "FrozenVolume" kT0 8, w ∈ Tg := by
  intro w hw
  obtain ⟨j, hj, rfl⟩ := List.mem_map.mp hw
  have hj2 := List.mem_range.mp hj
  clear hw hj
  match j, hj2 with
  | 0, _ => exact tg_t3 192 (by decide +kernel) rfl
  | 1, _ => exact tg_t3 194 (by decide +kernel) rfl
  | 2, _ => exact tg_t3 196 (by decide +kernel) rfl
  | 3, _ => exact tg_t3 198 (by decide +kernel) rfl
  | 4, _ => exact tg_t3 200 (by decide +kernel) rfl
  | 5, _ => exact tg_t3 202 (by decide +kernel) rfl
  | 6, _ => exact tg_t3 204 (by decide +kernel) rfl
  | 7, _ => exact tg_t3 206 (by decide +kernel) rfl
  | j + 8, h => exact absurd h (by omega)
theorem kV0 : ∀ k, k < 8 → parseFieldDescriptor (kT0 k).2.2.1 = some (kY0 k) := by decide +kernel
theorem kU0 : ∀ a, a < 8 → ∀ b, b < 8 → a ≠ b → (kT0 a).2.1 ≠ (kT0 b).2.1 := by decide +kernel
theorem kW1 : ∀ w ∈ u_ws "FrozenVolume$Row" kT1 3, w ∈ Tg := by
  intro w hw
  obtain ⟨j, hj, rfl⟩ := List.mem_map.mp hw
  have hj2 := List.mem_range.mp hj
  clear hw hj
  match j, hj2 with
  | 0, _ => exact tg_t1 52 (by decide +kernel) rfl
  | 1, _ => exact tg_t1 54 (by decide +kernel) rfl
  | 2, _ => exact tg_t1 56 (by decide +kernel) rfl
  | j + 3, h => exact absurd h (by omega)
theorem kV1 : ∀ k, k < 3 → parseFieldDescriptor (kT1 k).2.2.1 = some (kY1 k) := by decide +kernel
theorem kU1 : ∀ a, a < 3 → ∀ b, b < 3 → a ≠ b → (kT1 a).2.1 ≠ (kT1 b).2.1 := by decide +kernel
theorem kW2 : ∀ w ∈ u_ws "FrozenVolume$Tree" kT2 10, w ∈ Tg := by
  intro w hw
  obtain ⟨j, hj, rfl⟩ := List.mem_map.mp hw
  have hj2 := List.mem_range.mp hj
  clear hw hj
  match j, hj2 with
  | 0, _ => exact tg_t1 181 (by decide +kernel) rfl
  | 1, _ => exact tg_t1 183 (by decide +kernel) rfl
  | 2, _ => exact tg_t1 185 (by decide +kernel) rfl
  | 3, _ => exact tg_t1 187 (by decide +kernel) rfl
  | 4, _ => exact tg_t1 189 (by decide +kernel) rfl
  | 5, _ => exact tg_t1 191 (by decide +kernel) rfl
  | 6, _ => exact tg_t1 193 (by decide +kernel) rfl
  | 7, _ => exact tg_t1 195 (by decide +kernel) rfl
  | 8, _ => exact tg_t1 197 (by decide +kernel) rfl
  | 9, _ => exact tg_t1 199 (by decide +kernel) rfl
  | j + 10, h => exact absurd h (by omega)
theorem kV2 : ∀ k, k < 10 → parseFieldDescriptor (kT2 k).2.2.1 = some (kY2 k) := by decide +kernel
theorem kU2 : ∀ a, a < 10 → ∀ b, b < 10 → a ≠ b → (kT2 a).2.1 ≠ (kT2 b).2.1 := by decide +kernel
theorem kW3 : ∀ w ∈ u_ws "FrozenVolume$Node" kT3 20, w ∈ Tg := by
  intro w hw
  obtain ⟨j, hj, rfl⟩ := List.mem_map.mp hw
  have hj2 := List.mem_range.mp hj
  clear hw hj
  match j, hj2 with
  | 0, _ => exact tg_t1 122 (by decide +kernel) rfl
  | 1, _ => exact tg_t1 124 (by decide +kernel) rfl
  | 2, _ => exact tg_t1 126 (by decide +kernel) rfl
  | 3, _ => exact tg_t1 128 (by decide +kernel) rfl
  | 4, _ => exact tg_t1 130 (by decide +kernel) rfl
  | 5, _ => exact tg_t1 132 (by decide +kernel) rfl
  | 6, _ => exact tg_t1 134 (by decide +kernel) rfl
  | 7, _ => exact tg_t1 136 (by decide +kernel) rfl
  | 8, _ => exact tg_t1 138 (by decide +kernel) rfl
  | 9, _ => exact tg_t1 140 (by decide +kernel) rfl
  | 10, _ => exact tg_t1 142 (by decide +kernel) rfl
  | 11, _ => exact tg_t1 144 (by decide +kernel) rfl
  | 12, _ => exact tg_t1 146 (by decide +kernel) rfl
  | 13, _ => exact tg_t1 148 (by decide +kernel) rfl
  | 14, _ => exact tg_t1 150 (by decide +kernel) rfl
  | 15, _ => exact tg_t1 152 (by decide +kernel) rfl
  | 16, _ => exact tg_t1 154 (by decide +kernel) rfl
  | 17, _ => exact tg_t1 156 (by decide +kernel) rfl
  | 18, _ => exact tg_t1 158 (by decide +kernel) rfl
  | 19, _ => exact tg_t1 160 (by decide +kernel) rfl
  | j + 20, h => exact absurd h (by omega)
theorem kV3 : ∀ k, k < 20 → parseFieldDescriptor (kT3 k).2.2.1 = some (kY3 k) := by decide +kernel
theorem kU3 : ∀ a, a < 20 → ∀ b, b < 20 → a ≠ b → (kT3 a).2.1 ≠ (kT3 b).2.1 := by decide +kernel
theorem kW4 : ∀ w ∈ u_ws "FrozenVolume$Freezer" kT4 19, w ∈ Tg := by
  intro w hw
  obtain ⟨j, hj, rfl⟩ := List.mem_map.mp hw
  have hj2 := List.mem_range.mp hj
  clear hw hj
  match j, hj2 with
  | 0, _ => exact tg_t2 143 (by decide +kernel) rfl
  | 1, _ => exact tg_t2 145 (by decide +kernel) rfl
  | 2, _ => exact tg_t2 147 (by decide +kernel) rfl
  | 3, _ => exact tg_t2 149 (by decide +kernel) rfl
  | 4, _ => exact tg_t2 151 (by decide +kernel) rfl
  | 5, _ => exact tg_t2 153 (by decide +kernel) rfl
  | 6, _ => exact tg_t2 155 (by decide +kernel) rfl
  | 7, _ => exact tg_t2 157 (by decide +kernel) rfl
  | 8, _ => exact tg_t2 159 (by decide +kernel) rfl
  | 9, _ => exact tg_t2 161 (by decide +kernel) rfl
  | 10, _ => exact tg_t2 163 (by decide +kernel) rfl
  | 11, _ => exact tg_t2 165 (by decide +kernel) rfl
  | 12, _ => exact tg_t2 167 (by decide +kernel) rfl
  | 13, _ => exact tg_t2 169 (by decide +kernel) rfl
  | 14, _ => exact tg_t2 171 (by decide +kernel) rfl
  | 15, _ => exact tg_t2 173 (by decide +kernel) rfl
  | 16, _ => exact tg_t2 175 (by decide +kernel) rfl
  | 17, _ => exact tg_t2 177 (by decide +kernel) rfl
  | 18, _ => exact tg_t2 179 (by decide +kernel) rfl
  | j + 19, h => exact absurd h (by omega)
theorem kV4 : ∀ k, k < 19 → parseFieldDescriptor (kT4 k).2.2.1 = some (kY4 k) := by decide +kernel
theorem kU4 : ∀ a, a < 19 → ∀ b, b < 19 → a ≠ b → (kT4 a).2.1 ≠ (kT4 b).2.1 := by decide +kernel
theorem kW5 : ∀ w ∈ u_ws "FrozenVolume$Packer" kT5 20, w ∈ Tg := by
  intro w hw
  obtain ⟨j, hj, rfl⟩ := List.mem_map.mp hw
  have hj2 := List.mem_range.mp hj
  clear hw hj
  match j, hj2 with
  | 0, _ => exact tg_t2 53 (by decide +kernel) rfl
  | 1, _ => exact tg_t2 55 (by decide +kernel) rfl
  | 2, _ => exact tg_t2 57 (by decide +kernel) rfl
  | 3, _ => exact tg_t2 59 (by decide +kernel) rfl
  | 4, _ => exact tg_t2 61 (by decide +kernel) rfl
  | 5, _ => exact tg_t2 63 (by decide +kernel) rfl
  | 6, _ => exact tg_t2 65 (by decide +kernel) rfl
  | 7, _ => exact tg_t2 67 (by decide +kernel) rfl
  | 8, _ => exact tg_t2 69 (by decide +kernel) rfl
  | 9, _ => exact tg_t2 71 (by decide +kernel) rfl
  | 10, _ => exact tg_t2 73 (by decide +kernel) rfl
  | 11, _ => exact tg_t2 75 (by decide +kernel) rfl
  | 12, _ => exact tg_t2 77 (by decide +kernel) rfl
  | 13, _ => exact tg_t2 79 (by decide +kernel) rfl
  | 14, _ => exact tg_t2 81 (by decide +kernel) rfl
  | 15, _ => exact tg_t2 83 (by decide +kernel) rfl
  | 16, _ => exact tg_t2 85 (by decide +kernel) rfl
  | 17, _ => exact tg_t2 87 (by decide +kernel) rfl
  | 18, _ => exact tg_t2 89 (by decide +kernel) rfl
  | 19, _ => exact tg_t2 91 (by decide +kernel) rfl
  | j + 20, h => exact absurd h (by omega)
theorem kV5 : ∀ k, k < 20 → parseFieldDescriptor (kT5 k).2.2.1 = some (kY5 k) := by decide +kernel
theorem kU5 : ∀ a, a < 20 → ∀ b, b < 20 → a ≠ b → (kT5 a).2.1 ≠ (kT5 b).2.1 := by decide +kernel
theorem kW6 : ∀ w ∈ u_ws "FrozenVolume$Code" kT6 6, w ∈ Tg := by
  intro w hw
  obtain ⟨j, hj, rfl⟩ := List.mem_map.mp hw
  have hj2 := List.mem_range.mp hj
  clear hw hj
  match j, hj2 with
  | 0, _ => exact tg_t2 1 (by decide +kernel) rfl
  | 1, _ => exact tg_t2 3 (by decide +kernel) rfl
  | 2, _ => exact tg_t2 5 (by decide +kernel) rfl
  | 3, _ => exact tg_t2 7 (by decide +kernel) rfl
  | 4, _ => exact tg_t2 9 (by decide +kernel) rfl
  | 5, _ => exact tg_t2 11 (by decide +kernel) rfl
  | j + 6, h => exact absurd h (by omega)
theorem kV6 : ∀ k, k < 6 → parseFieldDescriptor (kT6 k).2.2.1 = some (kY6 k) := by decide +kernel
theorem kU6 : ∀ a, a < 6 → ∀ b, b < 6 → a ≠ b → (kT6 a).2.1 ≠ (kT6 b).2.1 := by decide +kernel
theorem kW7 : ∀ w ∈ u_ws "FrozenVolume$PieceRow" kT7 3, w ∈ Tg := by
  intro w hw
  obtain ⟨j, hj, rfl⟩ := List.mem_map.mp hw
  have hj2 := List.mem_range.mp hj
  clear hw hj
  match j, hj2 with
  | 0, _ => exact tg_t2 113 (by decide +kernel) rfl
  | 1, _ => exact tg_t2 115 (by decide +kernel) rfl
  | 2, _ => exact tg_t2 117 (by decide +kernel) rfl
  | j + 3, h => exact absurd h (by omega)
theorem kV7 : ∀ k, k < 3 → parseFieldDescriptor (kT7 k).2.2.1 = some (kY7 k) := by decide +kernel
theorem kU7 : ∀ a, a < 3 → ∀ b, b < 3 → a ≠ b → (kT7 a).2.1 ≠ (kT7 b).2.1 := by decide +kernel
theorem kW8 : ∀ w ∈ u_ws "FrozenVolume$Volume" kT8 18, w ∈ Tg := by
  intro w hw
  obtain ⟨j, hj, rfl⟩ := List.mem_map.mp hw
  have hj2 := List.mem_range.mp hj
  clear hw hj
  match j, hj2 with
  | 0, _ => exact tg_t3 147 (by decide +kernel) rfl
  | 1, _ => exact tg_t3 149 (by decide +kernel) rfl
  | 2, _ => exact tg_t3 151 (by decide +kernel) rfl
  | 3, _ => exact tg_t3 153 (by decide +kernel) rfl
  | 4, _ => exact tg_t3 155 (by decide +kernel) rfl
  | 5, _ => exact tg_t3 157 (by decide +kernel) rfl
  | 6, _ => exact tg_t3 159 (by decide +kernel) rfl
  | 7, _ => exact tg_t3 161 (by decide +kernel) rfl
  | 8, _ => exact tg_t3 163 (by decide +kernel) rfl
  | 9, _ => exact tg_t3 165 (by decide +kernel) rfl
  | 10, _ => exact tg_t3 167 (by decide +kernel) rfl
  | 11, _ => exact tg_t3 169 (by decide +kernel) rfl
  | 12, _ => exact tg_t3 171 (by decide +kernel) rfl
  | 13, _ => exact tg_t3 173 (by decide +kernel) rfl
  | 14, _ => exact tg_t3 175 (by decide +kernel) rfl
  | 15, _ => exact tg_t3 177 (by decide +kernel) rfl
  | 16, _ => exact tg_t3 179 (by decide +kernel) rfl
  | 17, _ => exact tg_t3 181 (by decide +kernel) rfl
  | j + 18, h => exact absurd h (by omega)
theorem kV8 : ∀ k, k < 18 → parseFieldDescriptor (kT8 k).2.2.1 = some (kY8 k) := by decide +kernel
theorem kU8 : ∀ a, a < 18 → ∀ b, b < 18 → a ≠ b → (kT8 a).2.1 ≠ (kT8 b).2.1 := by decide +kernel
theorem kW9 : ∀ w ∈ u_ws "FrozenVolume$Listings" kT9 17, w ∈ Tg := by
  intro w hw
  obtain ⟨j, hj, rfl⟩ := List.mem_map.mp hw
  have hj2 := List.mem_range.mp hj
  clear hw hj
  match j, hj2 with
  | 0, _ => exact tg_t3 20 (by decide +kernel) rfl
  | 1, _ => exact tg_t3 22 (by decide +kernel) rfl
  | 2, _ => exact tg_t3 24 (by decide +kernel) rfl
  | 3, _ => exact tg_t3 26 (by decide +kernel) rfl
  | 4, _ => exact tg_t3 28 (by decide +kernel) rfl
  | 5, _ => exact tg_t3 30 (by decide +kernel) rfl
  | 6, _ => exact tg_t3 32 (by decide +kernel) rfl
  | 7, _ => exact tg_t3 34 (by decide +kernel) rfl
  | 8, _ => exact tg_t3 36 (by decide +kernel) rfl
  | 9, _ => exact tg_t3 38 (by decide +kernel) rfl
  | 10, _ => exact tg_t3 40 (by decide +kernel) rfl
  | 11, _ => exact tg_t3 42 (by decide +kernel) rfl
  | 12, _ => exact tg_t3 44 (by decide +kernel) rfl
  | 13, _ => exact tg_t3 46 (by decide +kernel) rfl
  | 14, _ => exact tg_t3 48 (by decide +kernel) rfl
  | 15, _ => exact tg_t3 50 (by decide +kernel) rfl
  | 16, _ => exact tg_t3 52 (by decide +kernel) rfl
  | j + 17, h => exact absurd h (by omega)
theorem kV9 : ∀ k, k < 17 → parseFieldDescriptor (kT9 k).2.2.1 = some (kY9 k) := by decide +kernel
theorem kU9 : ∀ a, a < 17 → ∀ b, b < 17 → a ≠ b → (kT9 a).2.1 ≠ (kT9 b).2.1 := by decide +kernel
theorem kW10 : ∀ w ∈ u_ws "FrozenVolume$Inodes" kT10 7, w ∈ Tg := by
  intro w hw
  obtain ⟨j, hj, rfl⟩ := List.mem_map.mp hw
  have hj2 := List.mem_range.mp hj
  clear hw hj
  match j, hj2 with
  | 0, _ => exact tg_t2 219 (by decide +kernel) rfl
  | 1, _ => exact tg_t2 221 (by decide +kernel) rfl
  | 2, _ => exact tg_t2 223 (by decide +kernel) rfl
  | 3, _ => exact tg_t2 225 (by decide +kernel) rfl
  | 4, _ => exact tg_t2 227 (by decide +kernel) rfl
  | 5, _ => exact tg_t2 229 (by decide +kernel) rfl
  | 6, _ => exact tg_t2 231 (by decide +kernel) rfl
  | j + 7, h => exact absurd h (by omega)
theorem kV10 : ∀ k, k < 7 → parseFieldDescriptor (kT10 k).2.2.1 = some (kY10 k) := by decide +kernel
theorem kU10 : ∀ a, a < 7 → ∀ b, b < 7 → a ≠ b → (kT10 a).2.1 ≠ (kT10 b).2.1 := by decide +kernel
theorem kW11 : ∀ w ∈ u_ws "FrozenVolume$Unpacker" kT11 17, w ∈ Tg := by
  intro w hw
  obtain ⟨j, hj, rfl⟩ := List.mem_map.mp hw
  have hj2 := List.mem_range.mp hj
  clear hw hj
  match j, hj2 with
  | 0, _ => exact tg_t3 91 (by decide +kernel) rfl
  | 1, _ => exact tg_t3 93 (by decide +kernel) rfl
  | 2, _ => exact tg_t3 95 (by decide +kernel) rfl
  | 3, _ => exact tg_t3 97 (by decide +kernel) rfl
  | 4, _ => exact tg_t3 99 (by decide +kernel) rfl
  | 5, _ => exact tg_t3 101 (by decide +kernel) rfl
  | 6, _ => exact tg_t3 103 (by decide +kernel) rfl
  | 7, _ => exact tg_t3 105 (by decide +kernel) rfl
  | 8, _ => exact tg_t3 107 (by decide +kernel) rfl
  | 9, _ => exact tg_t3 109 (by decide +kernel) rfl
  | 10, _ => exact tg_t3 111 (by decide +kernel) rfl
  | 11, _ => exact tg_t3 113 (by decide +kernel) rfl
  | 12, _ => exact tg_t3 115 (by decide +kernel) rfl
  | 13, _ => exact tg_t3 117 (by decide +kernel) rfl
  | 14, _ => exact tg_t3 119 (by decide +kernel) rfl
  | 15, _ => exact tg_t3 121 (by decide +kernel) rfl
  | 16, _ => exact tg_t3 123 (by decide +kernel) rfl
  | j + 17, h => exact absurd h (by omega)
theorem kV11 : ∀ k, k < 17 → parseFieldDescriptor (kT11 k).2.2.1 = some (kY11 k) := by decide +kernel
theorem kU11 : ∀ a, a < 17 → ∀ b, b < 17 → a ≠ b → (kT11 a).2.1 ≠ (kT11 b).2.1 := by decide +kernel
theorem kW12 : ∀ w ∈ u_ws "FrozenVolumeModel" kT12 130, w ∈ Tg := by
  intro w hw
  obtain ⟨j, hj, rfl⟩ := List.mem_map.mp hw
  have hj2 := List.mem_range.mp hj
  clear hw hj
  match j, hj2 with
  | 0, _ => exact tg_t8 204 (by decide +kernel) rfl
  | 1, _ => exact tg_t8 206 (by decide +kernel) rfl
  | 2, _ => exact tg_t8 208 (by decide +kernel) rfl
  | 3, _ => exact tg_t8 210 (by decide +kernel) rfl
  | 4, _ => exact tg_t8 212 (by decide +kernel) rfl
  | 5, _ => exact tg_t8 214 (by decide +kernel) rfl
  | 6, _ => exact tg_t8 216 (by decide +kernel) rfl
  | 7, _ => exact tg_t8 218 (by decide +kernel) rfl
  | 8, _ => exact tg_t8 220 (by decide +kernel) rfl
  | 9, _ => exact tg_t8 222 (by decide +kernel) rfl
  | 10, _ => exact tg_t8 224 (by decide +kernel) rfl
  | 11, _ => exact tg_t8 226 (by decide +kernel) rfl
  | 12, _ => exact tg_t8 228 (by decide +kernel) rfl
  | 13, _ => exact tg_t8 230 (by decide +kernel) rfl
  | 14, _ => exact tg_t8 232 (by decide +kernel) rfl
  | 15, _ => exact tg_t8 234 (by decide +kernel) rfl
  | 16, _ => exact tg_t8 236 (by decide +kernel) rfl
  | 17, _ => exact tg_t8 238 (by decide +kernel) rfl
  | 18, _ => exact tg_t9 0 (by decide +kernel) rfl
  | 19, _ => exact tg_t9 2 (by decide +kernel) rfl
  | 20, _ => exact tg_t9 4 (by decide +kernel) rfl
  | 21, _ => exact tg_t9 6 (by decide +kernel) rfl
  | 22, _ => exact tg_t9 8 (by decide +kernel) rfl
  | 23, _ => exact tg_t9 10 (by decide +kernel) rfl
  | 24, _ => exact tg_t9 12 (by decide +kernel) rfl
  | 25, _ => exact tg_t9 14 (by decide +kernel) rfl
  | 26, _ => exact tg_t9 16 (by decide +kernel) rfl
  | 27, _ => exact tg_t9 18 (by decide +kernel) rfl
  | 28, _ => exact tg_t9 20 (by decide +kernel) rfl
  | 29, _ => exact tg_t9 22 (by decide +kernel) rfl
  | 30, _ => exact tg_t9 24 (by decide +kernel) rfl
  | 31, _ => exact tg_t9 26 (by decide +kernel) rfl
  | 32, _ => exact tg_t9 28 (by decide +kernel) rfl
  | 33, _ => exact tg_t9 30 (by decide +kernel) rfl
  | 34, _ => exact tg_t9 32 (by decide +kernel) rfl
  | 35, _ => exact tg_t9 34 (by decide +kernel) rfl
  | 36, _ => exact tg_t9 36 (by decide +kernel) rfl
  | 37, _ => exact tg_t9 38 (by decide +kernel) rfl
  | 38, _ => exact tg_t9 40 (by decide +kernel) rfl
  | 39, _ => exact tg_t9 42 (by decide +kernel) rfl
  | 40, _ => exact tg_t9 44 (by decide +kernel) rfl
  | 41, _ => exact tg_t9 46 (by decide +kernel) rfl
  | 42, _ => exact tg_t9 48 (by decide +kernel) rfl
  | 43, _ => exact tg_t9 50 (by decide +kernel) rfl
  | 44, _ => exact tg_t9 52 (by decide +kernel) rfl
  | 45, _ => exact tg_t9 54 (by decide +kernel) rfl
  | 46, _ => exact tg_t9 56 (by decide +kernel) rfl
  | 47, _ => exact tg_t9 58 (by decide +kernel) rfl
  | 48, _ => exact tg_t9 60 (by decide +kernel) rfl
  | 49, _ => exact tg_t9 62 (by decide +kernel) rfl
  | 50, _ => exact tg_t9 64 (by decide +kernel) rfl
  | 51, _ => exact tg_t9 66 (by decide +kernel) rfl
  | 52, _ => exact tg_t9 68 (by decide +kernel) rfl
  | 53, _ => exact tg_t9 70 (by decide +kernel) rfl
  | 54, _ => exact tg_t9 72 (by decide +kernel) rfl
  | 55, _ => exact tg_t9 74 (by decide +kernel) rfl
  | 56, _ => exact tg_t9 76 (by decide +kernel) rfl
  | 57, _ => exact tg_t9 78 (by decide +kernel) rfl
  | 58, _ => exact tg_t9 80 (by decide +kernel) rfl
  | 59, _ => exact tg_t9 82 (by decide +kernel) rfl
  | 60, _ => exact tg_t9 84 (by decide +kernel) rfl
  | 61, _ => exact tg_t9 86 (by decide +kernel) rfl
  | 62, _ => exact tg_t9 88 (by decide +kernel) rfl
  | 63, _ => exact tg_t9 90 (by decide +kernel) rfl
  | 64, _ => exact tg_t9 92 (by decide +kernel) rfl
  | 65, _ => exact tg_t9 94 (by decide +kernel) rfl
  | 66, _ => exact tg_t9 96 (by decide +kernel) rfl
  | 67, _ => exact tg_t9 98 (by decide +kernel) rfl
  | 68, _ => exact tg_t9 100 (by decide +kernel) rfl
  | 69, _ => exact tg_t9 102 (by decide +kernel) rfl
  | 70, _ => exact tg_t9 104 (by decide +kernel) rfl
  | 71, _ => exact tg_t9 106 (by decide +kernel) rfl
  | 72, _ => exact tg_t9 108 (by decide +kernel) rfl
  | 73, _ => exact tg_t9 110 (by decide +kernel) rfl
  | 74, _ => exact tg_t9 112 (by decide +kernel) rfl
  | 75, _ => exact tg_t9 114 (by decide +kernel) rfl
  | 76, _ => exact tg_t9 116 (by decide +kernel) rfl
  | 77, _ => exact tg_t9 118 (by decide +kernel) rfl
  | 78, _ => exact tg_t9 120 (by decide +kernel) rfl
  | 79, _ => exact tg_t9 122 (by decide +kernel) rfl
  | 80, _ => exact tg_t9 124 (by decide +kernel) rfl
  | 81, _ => exact tg_t9 126 (by decide +kernel) rfl
  | 82, _ => exact tg_t9 128 (by decide +kernel) rfl
  | 83, _ => exact tg_t9 130 (by decide +kernel) rfl
  | 84, _ => exact tg_t9 132 (by decide +kernel) rfl
  | 85, _ => exact tg_t9 134 (by decide +kernel) rfl
  | 86, _ => exact tg_t9 136 (by decide +kernel) rfl
  | 87, _ => exact tg_t9 138 (by decide +kernel) rfl
  | 88, _ => exact tg_t9 140 (by decide +kernel) rfl
  | 89, _ => exact tg_t9 142 (by decide +kernel) rfl
  | 90, _ => exact tg_t9 144 (by decide +kernel) rfl
  | 91, _ => exact tg_t9 146 (by decide +kernel) rfl
  | 92, _ => exact tg_t9 148 (by decide +kernel) rfl
  | 93, _ => exact tg_t9 150 (by decide +kernel) rfl
  | 94, _ => exact tg_t9 152 (by decide +kernel) rfl
  | 95, _ => exact tg_t9 154 (by decide +kernel) rfl
  | 96, _ => exact tg_t9 156 (by decide +kernel) rfl
  | 97, _ => exact tg_t9 158 (by decide +kernel) rfl
  | 98, _ => exact tg_t9 160 (by decide +kernel) rfl
  | 99, _ => exact tg_t9 162 (by decide +kernel) rfl
  | 100, _ => exact tg_t9 164 (by decide +kernel) rfl
  | 101, _ => exact tg_t9 166 (by decide +kernel) rfl
  | 102, _ => exact tg_t9 168 (by decide +kernel) rfl
  | 103, _ => exact tg_t9 170 (by decide +kernel) rfl
  | 104, _ => exact tg_t9 172 (by decide +kernel) rfl
  | 105, _ => exact tg_t9 174 (by decide +kernel) rfl
  | 106, _ => exact tg_t9 176 (by decide +kernel) rfl
  | 107, _ => exact tg_t9 178 (by decide +kernel) rfl
  | 108, _ => exact tg_t9 180 (by decide +kernel) rfl
  | 109, _ => exact tg_t9 182 (by decide +kernel) rfl
  | 110, _ => exact tg_t9 184 (by decide +kernel) rfl
  | 111, _ => exact tg_t9 186 (by decide +kernel) rfl
  | 112, _ => exact tg_t9 188 (by decide +kernel) rfl
  | 113, _ => exact tg_t9 190 (by decide +kernel) rfl
  | 114, _ => exact tg_t9 192 (by decide +kernel) rfl
  | 115, _ => exact tg_t9 194 (by decide +kernel) rfl
  | 116, _ => exact tg_t9 196 (by decide +kernel) rfl
  | 117, _ => exact tg_t9 198 (by decide +kernel) rfl
  | 118, _ => exact tg_t9 200 (by decide +kernel) rfl
  | 119, _ => exact tg_t9 202 (by decide +kernel) rfl
  | 120, _ => exact tg_t9 204 (by decide +kernel) rfl
  | 121, _ => exact tg_t9 206 (by decide +kernel) rfl
  | 122, _ => exact tg_t9 208 (by decide +kernel) rfl
  | 123, _ => exact tg_t9 210 (by decide +kernel) rfl
  | 124, _ => exact tg_t9 212 (by decide +kernel) rfl
  | 125, _ => exact tg_t9 214 (by decide +kernel) rfl
  | 126, _ => exact tg_t9 216 (by decide +kernel) rfl
  | 127, _ => exact tg_t9 218 (by decide +kernel) rfl
  | 128, _ => exact tg_t9 220 (by decide +kernel) rfl
  | 129, _ => exact tg_t9 222 (by decide +kernel) rfl
  | j + 130, h => exact absurd h (by omega)
theorem kV12 : ∀ k, k < 130 → parseFieldDescriptor (kT12 k).2.2.1 = some (kY12 k) := by decide +kernel
theorem kU12 : ∀ a, a < 130 → ∀ b, b < 130 → a ≠ b → (kT12 a).2.1 ≠ (kT12 b).2.1 := by decide +kernel
theorem kW13 : ∀ w ∈ u_ws "FrozenVolumeModel$Tree" kT13 2, w ∈ Tg := by
  intro w hw
  obtain ⟨j, hj, rfl⟩ := List.mem_map.mp hw
  have hj2 := List.mem_range.mp hj
  clear hw hj
  match j, hj2 with
  | 0, _ => exact tg_t8 5 (by decide +kernel) rfl
  | 1, _ => exact tg_t8 7 (by decide +kernel) rfl
  | j + 2, h => exact absurd h (by omega)
theorem kV13 : ∀ k, k < 2 → parseFieldDescriptor (kT13 k).2.2.1 = some (kY13 k) := by decide +kernel
theorem kU13 : ∀ a, a < 2 → ∀ b, b < 2 → a ≠ b → (kT13 a).2.1 ≠ (kT13 b).2.1 := by decide +kernel
theorem kW14 : ∀ w ∈ u_ws "FrozenVolumeModel$Row" kT14 7, w ∈ Tg := by
  intro w hw
  obtain ⟨j, hj, rfl⟩ := List.mem_map.mp hw
  have hj2 := List.mem_range.mp hj
  clear hw hj
  match j, hj2 with
  | 0, _ => exact tg_t8 33 (by decide +kernel) rfl
  | 1, _ => exact tg_t8 35 (by decide +kernel) rfl
  | 2, _ => exact tg_t8 37 (by decide +kernel) rfl
  | 3, _ => exact tg_t8 39 (by decide +kernel) rfl
  | 4, _ => exact tg_t8 41 (by decide +kernel) rfl
  | 5, _ => exact tg_t8 43 (by decide +kernel) rfl
  | 6, _ => exact tg_t8 45 (by decide +kernel) rfl
  | j + 7, h => exact absurd h (by omega)
theorem kV14 : ∀ k, k < 7 → parseFieldDescriptor (kT14 k).2.2.1 = some (kY14 k) := by decide +kernel
theorem kU14 : ∀ a, a < 7 → ∀ b, b < 7 → a ≠ b → (kT14 a).2.1 ≠ (kT14 b).2.1 := by decide +kernel
theorem kW15 : ∀ w ∈ u_ws "FrozenVolumeModel$ReadRow" kT15 5, w ∈ Tg := by
  intro w hw
  obtain ⟨j, hj, rfl⟩ := List.mem_map.mp hw
  have hj2 := List.mem_range.mp hj
  clear hw hj
  match j, hj2 with
  | 0, _ => exact tg_t8 63 (by decide +kernel) rfl
  | 1, _ => exact tg_t8 65 (by decide +kernel) rfl
  | 2, _ => exact tg_t8 67 (by decide +kernel) rfl
  | 3, _ => exact tg_t8 69 (by decide +kernel) rfl
  | 4, _ => exact tg_t8 71 (by decide +kernel) rfl
  | j + 5, h => exact absurd h (by omega)
theorem kV15 : ∀ k, k < 5 → parseFieldDescriptor (kT15 k).2.2.1 = some (kY15 k) := by decide +kernel
theorem kU15 : ∀ a, a < 5 → ∀ b, b < 5 → a ≠ b → (kT15 a).2.1 ≠ (kT15 b).2.1 := by decide +kernel
theorem cl_ok : eg_clok Tg cl kY := by
  intro ci q hq
  match ci, hq with
  | 0, hq => cases hq; exact ⟨kW0, kV0, kU0, tg_t1 20 (by decide +kernel) rfl, tg_t1 1 (by decide +kernel) rfl⟩
  | 1, hq => cases hq; exact ⟨kW1, kV1, kU1, tg_t1 28 (by decide +kernel) rfl, tg_t1 2 (by decide +kernel) rfl⟩
  | 2, hq => cases hq; exact ⟨kW2, kV2, kU2, tg_t1 61 (by decide +kernel) rfl, tg_t1 3 (by decide +kernel) rfl⟩
  | 3, hq => cases hq; exact ⟨kW3, kV3, kU3, tg_t1 72 (by decide +kernel) rfl, tg_t1 4 (by decide +kernel) rfl⟩
  | 4, hq => cases hq; exact ⟨kW4, kV4, kU4, tg_t1 203 (by decide +kernel) rfl, tg_t1 5 (by decide +kernel) rfl⟩
  | 5, hq => cases hq; exact ⟨kW5, kV5, kU5, tg_t1 213 (by decide +kernel) rfl, tg_t1 6 (by decide +kernel) rfl⟩
  | 6, hq => cases hq; exact ⟨kW6, kV6, kU6, tg_t1 224 (by decide +kernel) rfl, tg_t1 7 (by decide +kernel) rfl⟩
  | 7, hq => cases hq; exact ⟨kW7, kV7, kU7, tg_t2 96 (by decide +kernel) rfl, tg_t1 8 (by decide +kernel) rfl⟩
  | 8, hq => cases hq; exact ⟨kW8, kV8, kU8, tg_t2 183 (by decide +kernel) rfl, tg_t1 9 (by decide +kernel) rfl⟩
  | 9, hq => cases hq; exact ⟨kW9, kV9, kU9, tg_t2 192 (by decide +kernel) rfl, tg_t1 10 (by decide +kernel) rfl⟩
  | 10, hq => cases hq; exact ⟨kW10, kV10, kU10, tg_t2 198 (by decide +kernel) rfl, tg_t1 11 (by decide +kernel) rfl⟩
  | 11, hq => cases hq; exact ⟨kW11, kV11, kU11, tg_t3 60 (by decide +kernel) rfl, tg_t1 12 (by decide +kernel) rfl⟩
  | 12, hq => cases hq; exact ⟨kW12, kV12, kU12, tg_t7 228 (by decide +kernel) rfl, tg_t1 13 (by decide +kernel) rfl⟩
  | 13, hq => cases hq; exact ⟨kW13, kV13, kU13, tg_t7 237 (by decide +kernel) rfl, tg_t1 14 (by decide +kernel) rfl⟩
  | 14, hq => cases hq; exact ⟨kW14, kV14, kU14, tg_t8 12 (by decide +kernel) rfl, tg_t1 15 (by decide +kernel) rfl⟩
  | 15, hq => cases hq; exact ⟨kW15, kV15, kU15, tg_t8 50 (by decide +kernel) rfl, tg_t1 16 (by decide +kernel) rfl⟩
  | n + 16, hq => simp [cl] at hq
theorem nt_ok : ∀ t, eg_nt t = true → Cond.arrayClass (newarray.typeOf t) ∈ Tg := by
  intro t ht
  cases t <;> first | (cases ht; done) | skip
  · exact tg_t2 94 (by decide +kernel) rfl
  · exact tg_t1 59 (by decide +kernel) rfl
  · exact tg_t2 14 (by decide +kernel) rfl
  · exact tg_t8 48 (by decide +kernel) rfl
