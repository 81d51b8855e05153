/-! TABLES, printed by wip/gen/gen.py: words and kinds -/
def Tg : List Cond := lw_tbl.filter goodWord
def eg_isN (w : Cond) : Bool := match w with
  | .fieldLinkNest _ _ _ _ _ _ => true
  | .methodLinkNest _ _ _ _ => true
  | _ => false
def Tn : List Cond := tables_1.filter eg_isN
theorem tg_t (i : Nat) {w : Cond} (h : tables_1[i]? = some w) (g : goodWord w = true) : w ∈ Tg := List.mem_filter.mpr ⟨List.mem_append_right _ (List.mem_of_getElem? h), g⟩
theorem tg_s (i : Nat) {w : Cond} (h : (k2_sels lw_privs)[i]? = some w) (g : goodWord w = true) : w ∈ Tg := List.mem_filter.mpr ⟨List.mem_append_left _ (List.mem_of_getElem? h), g⟩
theorem tn_t (i : Nat) {w : Cond} (h : tables_1[i]? = some w) (g : eg_isN w = true) : w ∈ Tn := List.mem_filter.mpr ⟨List.mem_of_getElem? h, g⟩
theorem Tg_good : ∀ w ∈ Tg, ((w.onTables && w.keeps) = true ∨ ∃ ty, w = .arrayClass ty) := fun w h => good_of_word (List.mem_filter.mp h).2
theorem Tn_nest : ∀ w ∈ Tn, eg_nw2 w := by
  intro w h
  have h2 := (List.mem_filter.mp h).2
  cases w <;> first | exact Or.inl ⟨_, _, _, _, _, _, rfl⟩ | exact Or.inr ⟨_, _, _, _, rfl⟩ | cases h2
def kT0 : u_T := fun k => match k with
  | 0 => ("FrozenVolume", "tape", "LFrozenVolume$Row;", true)
  | 1 => ("FrozenVolume", "out", "LFrozenVolume$Row;", true)
  | 2 => ("FrozenVolume", "tree", "LFrozenVolume$Tree;", true)
  | 3 => ("FrozenVolume", "freezer", "LFrozenVolume$Freezer;", true)
  | 4 => ("FrozenVolume", "volume", "LFrozenVolume$Volume;", true)
  | 5 => ("FrozenVolume", "fed", "Z", false)
  | 6 => ("FrozenVolume", "mounted", "Z", false)
  | _ => ("FrozenVolume", "stray", "I", false)
def kY0 : Nat → FieldType := fun k => match k with
  | 0 => .object "FrozenVolume$Row"
  | 1 => .object "FrozenVolume$Row"
  | 2 => .object "FrozenVolume$Tree"
  | 3 => .object "FrozenVolume$Freezer"
  | 4 => .object "FrozenVolume$Volume"
  | 5 => .boolean
  | 6 => .boolean
  | _ => .int
def kT1 : u_T := fun k => match k with
  | 0 => ("FrozenVolume$Row", "bytes", "[B", true)
  | 1 => ("FrozenVolume$Row", "size", "I", false)
  | _ => ("FrozenVolume$Row", "over", "Z", false)
def kY1 : Nat → FieldType := fun k => match k with
  | 0 => .array (.byte)
  | 1 => .int
  | _ => .boolean
def kT2 : u_T := fun k => match k with
  | 0 => ("FrozenVolume$Tree", "files", "LFrozenVolume$Row;", true)
  | 1 => ("FrozenVolume$Tree", "nodes", "[LFrozenVolume$Node;", true)
  | 2 => ("FrozenVolume$Tree", "made", "I", false)
  | 3 => ("FrozenVolume$Tree", "folders", "[LFrozenVolume$Node;", true)
  | 4 => ("FrozenVolume$Tree", "children", "[LFrozenVolume$Node;", true)
  | 5 => ("FrozenVolume$Tree", "names", "[LFrozenVolume$Row;", true)
  | 6 => ("FrozenVolume$Tree", "noName", "LFrozenVolume$Row;", true)
  | 7 => ("FrozenVolume$Tree", "entries", "I", false)
  | 8 => ("FrozenVolume$Tree", "nameBytes", "I", false)
  | _ => ("FrozenVolume$Tree", "targetBytes", "I", false)
def kY2 : Nat → FieldType := fun k => match k with
  | 0 => .object "FrozenVolume$Row"
  | 1 => .array (.object "FrozenVolume$Node")
  | 2 => .int
  | 3 => .array (.object "FrozenVolume$Node")
  | 4 => .array (.object "FrozenVolume$Node")
  | 5 => .array (.object "FrozenVolume$Row")
  | 6 => .object "FrozenVolume$Row"
  | 7 => .int
  | 8 => .int
  | _ => .int
def kT3 : u_T := fun k => match k with
  | 0 => ("FrozenVolume$Node", "id", "I", true)
  | 1 => ("FrozenVolume$Node", "kind", "I", true)
  | 2 => ("FrozenVolume$Node", "device", "I", true)
  | 3 => ("FrozenVolume$Node", "home", "LFrozenVolume$Node;", true)
  | 4 => ("FrozenVolume$Node", "depth", "I", true)
  | 5 => ("FrozenVolume$Node", "mode", "I", false)
  | 6 => ("FrozenVolume$Node", "owner", "I", false)
  | 7 => ("FrozenVolume$Node", "group", "I", false)
  | 8 => ("FrozenVolume$Node", "time", "I", false)
  | 9 => ("FrozenVolume$Node", "links", "I", false)
  | 10 => ("FrozenVolume$Node", "entries", "I", false)
  | 11 => ("FrozenVolume$Node", "at", "I", false)
  | 12 => ("FrozenVolume$Node", "size", "I", false)
  | 13 => ("FrozenVolume$Node", "target", "LFrozenVolume$Row;", false)
  | 14 => ("FrozenVolume$Node", "inode", "I", false)
  | 15 => ("FrozenVolume$Node", "reference", "J", false)
  | 16 => ("FrozenVolume$Node", "begin", "I", false)
  | 17 => ("FrozenVolume$Node", "firstBlock", "I", false)
  | 18 => ("FrozenVolume$Node", "fragment", "I", false)
  | _ => ("FrozenVolume$Node", "offset", "I", false)
def kY3 : Nat → FieldType := fun k => match k with
  | 0 => .int
  | 1 => .int
  | 2 => .int
  | 3 => .object "FrozenVolume$Node"
  | 4 => .int
  | 5 => .int
  | 6 => .int
  | 7 => .int
  | 8 => .int
  | 9 => .int
  | 10 => .int
  | 11 => .int
  | 12 => .int
  | 13 => .object "FrozenVolume$Row"
  | 14 => .int
  | 15 => .long
  | 16 => .int
  | 17 => .int
  | 18 => .int
  | _ => .int
def kT4 : u_T := fun k => match k with
  | 0 => ("FrozenVolume$Freezer", "next", "LFrozenVolume$Row;", true)
  | 1 => ("FrozenVolume$Freezer", "nodes", "[LFrozenVolume$Node;", true)
  | 2 => ("FrozenVolume$Freezer", "count", "I", false)
  | 3 => ("FrozenVolume$Freezer", "packer", "LFrozenVolume$Packer;", true)
  | 4 => ("FrozenVolume$Freezer", "inodes", "LFrozenVolume$PieceRow;", true)
  | 5 => ("FrozenVolume$Freezer", "folders", "LFrozenVolume$PieceRow;", true)
  | 6 => ("FrozenVolume$Freezer", "fragments", "LFrozenVolume$PieceRow;", true)
  | 7 => ("FrozenVolume$Freezer", "exports", "LFrozenVolume$PieceRow;", true)
  | 8 => ("FrozenVolume$Freezer", "ids", "LFrozenVolume$PieceRow;", true)
  | 9 => ("FrozenVolume$Freezer", "folderPieces", "LFrozenVolume$Row;", true)
  | 10 => ("FrozenVolume$Freezer", "fragment", "LFrozenVolume$Row;", true)
  | 11 => ("FrozenVolume$Freezer", "blocks", "LFrozenVolume$Row;", true)
  | 12 => ("FrozenVolume$Freezer", "indexes", "LFrozenVolume$Row;", true)
  | 13 => ("FrozenVolume$Freezer", "indexCount", "I", false)
  | 14 => ("FrozenVolume$Freezer", "listing", "I", false)
  | 15 => ("FrozenVolume$Freezer", "walked", "[I", true)
  | 16 => ("FrozenVolume$Freezer", "block", "I", false)
  | 17 => ("FrozenVolume$Freezer", "options", "I", false)
  | _ => ("FrozenVolume$Freezer", "inodesAt", "I", false)
def kY4 : Nat → FieldType := fun k => match k with
  | 0 => .object "FrozenVolume$Row"
  | 1 => .array (.object "FrozenVolume$Node")
  | 2 => .int
  | 3 => .object "FrozenVolume$Packer"
  | 4 => .object "FrozenVolume$PieceRow"
  | 5 => .object "FrozenVolume$PieceRow"
  | 6 => .object "FrozenVolume$PieceRow"
  | 7 => .object "FrozenVolume$PieceRow"
  | 8 => .object "FrozenVolume$PieceRow"
  | 9 => .object "FrozenVolume$Row"
  | 10 => .object "FrozenVolume$Row"
  | 11 => .object "FrozenVolume$Row"
  | 12 => .object "FrozenVolume$Row"
  | 13 => .int
  | 14 => .int
  | 15 => .array (.int)
  | 16 => .int
  | 17 => .int
  | _ => .int
def kT5 : u_T := fun k => match k with
  | 0 => ("FrozenVolume$Packer", "packed", "LFrozenVolume$Row;", true)
  | 1 => ("FrozenVolume$Packer", "heads", "[I", true)
  | 2 => ("FrozenVolume$Packer", "before", "[I", true)
  | 3 => ("FrozenVolume$Packer", "known", "I", false)
  | 4 => ("FrozenVolume$Packer", "mask", "I", false)
  | 5 => ("FrozenVolume$Packer", "tokenLengths", "[I", true)
  | 6 => ("FrozenVolume$Packer", "tokenValues", "[I", true)
  | 7 => ("FrozenVolume$Packer", "tokens", "I", false)
  | 8 => ("FrozenVolume$Packer", "symbols", "LFrozenVolume$Code;", true)
  | 9 => ("FrozenVolume$Packer", "distances", "LFrozenVolume$Code;", true)
  | 10 => ("FrozenVolume$Packer", "tellers", "LFrozenVolume$Code;", true)
  | 11 => ("FrozenVolume$Packer", "fixedSymbols", "LFrozenVolume$Code;", true)
  | 12 => ("FrozenVolume$Packer", "fixedDistances", "LFrozenVolume$Code;", true)
  | 13 => ("FrozenVolume$Packer", "told", "[I", true)
  | 14 => ("FrozenVolume$Packer", "tolds", "I", false)
  | 15 => ("FrozenVolume$Packer", "ranked", "[I", true)
  | 16 => ("FrozenVolume$Packer", "weights", "[I", true)
  | 17 => ("FrozenVolume$Packer", "pairs", "[Z", true)
  | 18 => ("FrozenVolume$Packer", "hold", "I", false)
  | _ => ("FrozenVolume$Packer", "held", "I", false)
def kY5 : Nat → FieldType := fun k => match k with
  | 0 => .object "FrozenVolume$Row"
  | 1 => .array (.int)
  | 2 => .array (.int)
  | 3 => .int
  | 4 => .int
  | 5 => .array (.int)
  | 6 => .array (.int)
  | 7 => .int
  | 8 => .object "FrozenVolume$Code"
  | 9 => .object "FrozenVolume$Code"
  | 10 => .object "FrozenVolume$Code"
  | 11 => .object "FrozenVolume$Code"
  | 12 => .object "FrozenVolume$Code"
  | 13 => .array (.int)
  | 14 => .int
  | 15 => .array (.int)
  | 16 => .array (.int)
  | 17 => .array (.boolean)
  | 18 => .int
  | _ => .int
def kT6 : u_T := fun k => match k with
  | 0 => ("FrozenVolume$Code", "counts", "[I", true)
  | 1 => ("FrozenVolume$Code", "lengths", "[I", true)
  | 2 => ("FrozenVolume$Code", "codes", "[I", true)
  | 3 => ("FrozenVolume$Code", "ranked", "[I", true)
  | 4 => ("FrozenVolume$Code", "perLength", "[I", true)
  | _ => ("FrozenVolume$Code", "firsts", "[I", true)
def kY6 : Nat → FieldType := fun k => match k with
  | 0 => .array (.int)
  | 1 => .array (.int)
  | 2 => .array (.int)
  | 3 => .array (.int)
  | 4 => .array (.int)
  | _ => .array (.int)
def kT7 : u_T := fun k => match k with
  | 0 => ("FrozenVolume$PieceRow", "row", "LFrozenVolume$Row;", true)
  | 1 => ("FrozenVolume$PieceRow", "starts", "[I", true)
  | _ => ("FrozenVolume$PieceRow", "pieces", "I", false)
def kY7 : Nat → FieldType := fun k => match k with
  | 0 => .object "FrozenVolume$Row"
  | 1 => .array (.int)
  | _ => .int
def kT8 : u_T := fun k => match k with
  | 0 => ("FrozenVolume$Volume", "image", "LFrozenVolume$Row;", true)
  | 1 => ("FrozenVolume$Volume", "listings", "LFrozenVolume$Listings;", true)
  | 2 => ("FrozenVolume$Volume", "inodes", "LFrozenVolume$Inodes;", true)
  | 3 => ("FrozenVolume$Volume", "fragments", "LFrozenVolume$PieceRow;", true)
  | 4 => ("FrozenVolume$Volume", "exports", "LFrozenVolume$PieceRow;", true)
  | 5 => ("FrozenVolume$Volume", "ids", "LFrozenVolume$PieceRow;", true)
  | 6 => ("FrozenVolume$Volume", "unpacker", "LFrozenVolume$Unpacker;", true)
  | 7 => ("FrozenVolume$Volume", "loaded", "[B", true)
  | 8 => ("FrozenVolume$Volume", "fragmentSizes", "[I", true)
  | 9 => ("FrozenVolume$Volume", "block", "I", false)
  | 10 => ("FrozenVolume$Volume", "inodeCount", "I", false)
  | 11 => ("FrozenVolume$Volume", "fragmentCount", "I", false)
  | 12 => ("FrozenVolume$Volume", "idCount", "I", false)
  | 13 => ("FrozenVolume$Volume", "exported", "Z", false)
  | 14 => ("FrozenVolume$Volume", "used", "I", false)
  | 15 => ("FrozenVolume$Volume", "inodesAt", "I", false)
  | 16 => ("FrozenVolume$Volume", "foldersAt", "I", false)
  | _ => ("FrozenVolume$Volume", "root", "I", false)
def kY8 : Nat → FieldType := fun k => match k with
  | 0 => .object "FrozenVolume$Row"
  | 1 => .object "FrozenVolume$Listings"
  | 2 => .object "FrozenVolume$Inodes"
  | 3 => .object "FrozenVolume$PieceRow"
  | 4 => .object "FrozenVolume$PieceRow"
  | 5 => .object "FrozenVolume$PieceRow"
  | 6 => .object "FrozenVolume$Unpacker"
  | 7 => .array (.byte)
  | 8 => .array (.int)
  | 9 => .int
  | 10 => .int
  | 11 => .int
  | 12 => .int
  | 13 => .boolean
  | 14 => .int
  | 15 => .int
  | 16 => .int
  | _ => .int
def kT9 : u_T := fun k => match k with
  | 0 => ("FrozenVolume$Listings", "inodes", "LFrozenVolume$Inodes;", true)
  | 1 => ("FrozenVolume$Listings", "pieces", "LFrozenVolume$PieceRow;", true)
  | 2 => ("FrozenVolume$Listings", "row", "LFrozenVolume$Row;", true)
  | 3 => ("FrozenVolume$Listings", "begin", "I", false)
  | 4 => ("FrozenVolume$Listings", "at", "I", false)
  | 5 => ("FrozenVolume$Listings", "stop", "I", false)
  | 6 => ("FrozenVolume$Listings", "head", "I", false)
  | 7 => ("FrozenVolume$Listings", "left", "I", false)
  | 8 => ("FrozenVolume$Listings", "inodePiece", "I", false)
  | 9 => ("FrozenVolume$Listings", "base", "J", false)
  | 10 => ("FrozenVolume$Listings", "nameAt", "I", false)
  | 11 => ("FrozenVolume$Listings", "nameSize", "I", false)
  | 12 => ("FrozenVolume$Listings", "entryAt", "I", false)
  | 13 => ("FrozenVolume$Listings", "ties", "[I", true)
  | 14 => ("FrozenVolume$Listings", "homes", "[I", true)
  | 15 => ("FrozenVolume$Listings", "entries", "[I", true)
  | _ => ("FrozenVolume$Listings", "folders", "[I", true)
def kY9 : Nat → FieldType := fun k => match k with
  | 0 => .object "FrozenVolume$Inodes"
  | 1 => .object "FrozenVolume$PieceRow"
  | 2 => .object "FrozenVolume$Row"
  | 3 => .int
  | 4 => .int
  | 5 => .int
  | 6 => .int
  | 7 => .int
  | 8 => .int
  | 9 => .long
  | 10 => .int
  | 11 => .int
  | 12 => .int
  | 13 => .array (.int)
  | 14 => .array (.int)
  | 15 => .array (.int)
  | _ => .array (.int)
def kT10 : u_T := fun k => match k with
  | 0 => ("FrozenVolume$Inodes", "pieces", "LFrozenVolume$PieceRow;", true)
  | 1 => ("FrozenVolume$Inodes", "row", "LFrozenVolume$Row;", true)
  | 2 => ("FrozenVolume$Inodes", "count", "I", false)
  | 3 => ("FrozenVolume$Inodes", "block", "I", false)
  | 4 => ("FrozenVolume$Inodes", "begins", "[I", true)
  | 5 => ("FrozenVolume$Inodes", "numbers", "[I", true)
  | _ => ("FrozenVolume$Inodes", "places", "[I", true)
def kY10 : Nat → FieldType := fun k => match k with
  | 0 => .object "FrozenVolume$PieceRow"
  | 1 => .object "FrozenVolume$Row"
  | 2 => .int
  | 3 => .int
  | 4 => .array (.int)
  | 5 => .array (.int)
  | _ => .array (.int)
def kT11 : u_T := fun k => match k with
  | 0 => ("FrozenVolume$Unpacker", "source", "[B", false)
  | 1 => ("FrozenVolume$Unpacker", "bit", "I", false)
  | 2 => ("FrozenVolume$Unpacker", "stop", "I", false)
  | 3 => ("FrozenVolume$Unpacker", "made", "[B", false)
  | 4 => ("FrozenVolume$Unpacker", "begin", "I", false)
  | 5 => ("FrozenVolume$Unpacker", "at", "I", false)
  | 6 => ("FrozenVolume$Unpacker", "limit", "I", false)
  | 7 => ("FrozenVolume$Unpacker", "window", "I", false)
  | 8 => ("FrozenVolume$Unpacker", "failed", "Z", false)
  | 9 => ("FrozenVolume$Unpacker", "symbols", "LFrozenVolume$Code;", true)
  | 10 => ("FrozenVolume$Unpacker", "distances", "LFrozenVolume$Code;", true)
  | 11 => ("FrozenVolume$Unpacker", "tellers", "LFrozenVolume$Code;", true)
  | 12 => ("FrozenVolume$Unpacker", "fixedSymbols", "LFrozenVolume$Code;", true)
  | 13 => ("FrozenVolume$Unpacker", "fixedDistances", "LFrozenVolume$Code;", true)
  | 14 => ("FrozenVolume$Unpacker", "lengths", "[I", true)
  | 15 => ("FrozenVolume$Unpacker", "symbolCount", "I", false)
  | _ => ("FrozenVolume$Unpacker", "distanceCount", "I", false)
def kY11 : Nat → FieldType := fun k => match k with
  | 0 => .array (.byte)
  | 1 => .int
  | 2 => .int
  | 3 => .array (.byte)
  | 4 => .int
  | 5 => .int
  | 6 => .int
  | 7 => .int
  | 8 => .boolean
  | 9 => .object "FrozenVolume$Code"
  | 10 => .object "FrozenVolume$Code"
  | 11 => .object "FrozenVolume$Code"
  | 12 => .object "FrozenVolume$Code"
  | 13 => .object "FrozenVolume$Code"
  | 14 => .array (.int)
  | 15 => .int
  | _ => .int
def kT12 : u_T := fun k => match k with
  | 0 => ("FrozenVolumeModel", "tape", "[B", true)
  | 1 => ("FrozenVolumeModel", "tapeSize", "I", false)
  | 2 => ("FrozenVolumeModel", "fed", "Z", false)
  | 3 => ("FrozenVolumeModel", "out", "[B", true)
  | 4 => ("FrozenVolumeModel", "outSize", "I", false)
  | 5 => ("FrozenVolumeModel", "nodes", "I", false)
  | 6 => ("FrozenVolumeModel", "kind", "[I", true)
  | 7 => ("FrozenVolumeModel", "mode", "[I", true)
  | 8 => ("FrozenVolumeModel", "owner", "[I", true)
  | 9 => ("FrozenVolumeModel", "group", "[I", true)
  | 10 => ("FrozenVolumeModel", "time", "[I", true)
  | 11 => ("FrozenVolumeModel", "device", "[I", true)
  | 12 => ("FrozenVolumeModel", "ties", "[I", true)
  | 13 => ("FrozenVolumeModel", "parent", "[I", true)
  | 14 => ("FrozenVolumeModel", "at", "[I", true)
  | 15 => ("FrozenVolumeModel", "size", "[I", true)
  | 16 => ("FrozenVolumeModel", "bytes", "[B", true)
  | 17 => ("FrozenVolumeModel", "allBytes", "I", false)
  | 18 => ("FrozenVolumeModel", "targets", "[B", true)
  | 19 => ("FrozenVolumeModel", "allTargets", "I", false)
  | 20 => ("FrozenVolumeModel", "entries", "I", false)
  | 21 => ("FrozenVolumeModel", "folder", "[I", true)
  | 22 => ("FrozenVolumeModel", "leads", "[I", true)
  | 23 => ("FrozenVolumeModel", "nameAt", "[I", true)
  | 24 => ("FrozenVolumeModel", "nameSize", "[I", true)
  | 25 => ("FrozenVolumeModel", "names", "[B", true)
  | 26 => ("FrozenVolumeModel", "allNames", "I", false)
  | 27 => ("FrozenVolumeModel", "packed", "[B", true)
  | 28 => ("FrozenVolumeModel", "packedBits", "I", false)
  | 29 => ("FrozenVolumeModel", "pairBefore", "[I", true)
  | 30 => ("FrozenVolumeModel", "pairLast", "[I", true)
  | 31 => ("FrozenVolumeModel", "tokens", "I", false)
  | 32 => ("FrozenVolumeModel", "tokenLength", "[I", true)
  | 33 => ("FrozenVolumeModel", "tokenValue", "[I", true)
  | 34 => ("FrozenVolumeModel", "counts", "[I", true)
  | 35 => ("FrozenVolumeModel", "lengths", "[I", true)
  | 36 => ("FrozenVolumeModel", "fixed", "[I", true)
  | 37 => ("FrozenVolumeModel", "ranked", "[I", true)
  | 38 => ("FrozenVolumeModel", "weight", "[I", true)
  | 39 => ("FrozenVolumeModel", "weightBefore", "[I", true)
  | 40 => ("FrozenVolumeModel", "items", "[I", true)
  | 41 => ("FrozenVolumeModel", "lengthRow", "[I", true)
  | 42 => ("FrozenVolumeModel", "steps", "I", false)
  | 43 => ("FrozenVolumeModel", "step", "[I", true)
  | 44 => ("FrozenVolumeModel", "stepMore", "[I", true)
  | 45 => ("FrozenVolumeModel", "codes", "[I", true)
  | 46 => ("FrozenVolumeModel", "symbolTree", "LFrozenVolumeModel$Tree;", true)
  | 47 => ("FrozenVolumeModel", "distanceTree", "LFrozenVolumeModel$Tree;", true)
  | 48 => ("FrozenVolumeModel", "smallTree", "LFrozenVolumeModel$Tree;", true)
  | 49 => ("FrozenVolumeModel", "readLengths", "[I", true)
  | 50 => ("FrozenVolumeModel", "source", "[B", false)
  | 51 => ("FrozenVolumeModel", "sourceFrom", "I", false)
  | 52 => ("FrozenVolumeModel", "sourceBits", "I", false)
  | 53 => ("FrozenVolumeModel", "readBits", "I", false)
  | 54 => ("FrozenVolumeModel", "wrong", "Z", false)
  | 55 => ("FrozenVolumeModel", "target", "[B", false)
  | 56 => ("FrozenVolumeModel", "made", "I", false)
  | 57 => ("FrozenVolumeModel", "room", "I", false)
  | 58 => ("FrozenVolumeModel", "image", "[B", true)
  | 59 => ("FrozenVolumeModel", "imageSize", "I", false)
  | 60 => ("FrozenVolumeModel", "build", "[B", true)
  | 61 => ("FrozenVolumeModel", "buildSize", "I", false)
  | 62 => ("FrozenVolumeModel", "tooMuch", "Z", false)
  | 63 => ("FrozenVolumeModel", "numbered", "I", false)
  | 64 => ("FrozenVolumeModel", "ordered", "[I", true)
  | 65 => ("FrozenVolumeModel", "numberOf", "[I", true)
  | 66 => ("FrozenVolumeModel", "ids", "I", false)
  | 67 => ("FrozenVolumeModel", "id", "[I", true)
  | 68 => ("FrozenVolumeModel", "block", "I", false)
  | 69 => ("FrozenVolumeModel", "options", "I", false)
  | 70 => ("FrozenVolumeModel", "begin", "[J", true)
  | 71 => ("FrozenVolumeModel", "fragmentOf", "[I", true)
  | 72 => ("FrozenVolumeModel", "offsetOf", "[I", true)
  | 73 => ("FrozenVolumeModel", "blocksAt", "[I", true)
  | 74 => ("FrozenVolumeModel", "blocksOf", "[I", true)
  | 75 => ("FrozenVolumeModel", "zerosOf", "[I", true)
  | 76 => ("FrozenVolumeModel", "allBlocks", "I", false)
  | 77 => ("FrozenVolumeModel", "blockNumber", "[I", true)
  | 78 => ("FrozenVolumeModel", "fragments", "I", false)
  | 79 => ("FrozenVolumeModel", "fragmentBegin", "[I", true)
  | 80 => ("FrozenVolumeModel", "fragmentNumber", "[I", true)
  | 81 => ("FrozenVolumeModel", "fragment", "[B", true)
  | 82 => ("FrozenVolumeModel", "fragmentSize", "I", false)
  | 83 => ("FrozenVolumeModel", "inodes", "LFrozenVolumeModel$Row;", true)
  | 84 => ("FrozenVolumeModel", "listings", "LFrozenVolumeModel$Row;", true)
  | 85 => ("FrozenVolumeModel", "inodeAt", "[I", true)
  | 86 => ("FrozenVolumeModel", "indexes", "I", false)
  | 87 => ("FrozenVolumeModel", "indexPlace", "[I", true)
  | 88 => ("FrozenVolumeModel", "indexStart", "[I", true)
  | 89 => ("FrozenVolumeModel", "indexEntry", "[I", true)
  | 90 => ("FrozenVolumeModel", "astray", "I", false)
  | 91 => ("FrozenVolumeModel", "mounted", "Z", false)
  | 92 => ("FrozenVolumeModel", "inodeCount", "I", false)
  | 93 => ("FrozenVolumeModel", "mountedBlock", "I", false)
  | 94 => ("FrozenVolumeModel", "fragmentCount", "I", false)
  | 95 => ("FrozenVolumeModel", "idCount", "I", false)
  | 96 => ("FrozenVolumeModel", "root", "J", false)
  | 97 => ("FrozenVolumeModel", "used", "I", false)
  | 98 => ("FrozenVolumeModel", "inodeBegin", "I", false)
  | 99 => ("FrozenVolumeModel", "listingBegin", "I", false)
  | 100 => ("FrozenVolumeModel", "fragmentList", "J", false)
  | 101 => ("FrozenVolumeModel", "exportList", "J", false)
  | 102 => ("FrozenVolumeModel", "idList", "J", false)
  | 103 => ("FrozenVolumeModel", "inodeRow", "LFrozenVolumeModel$ReadRow;", true)
  | 104 => ("FrozenVolumeModel", "listingRow", "LFrozenVolumeModel$ReadRow;", true)
  | 105 => ("FrozenVolumeModel", "fragmentTable", "LFrozenVolumeModel$ReadRow;", true)
  | 106 => ("FrozenVolumeModel", "exportTable", "LFrozenVolumeModel$ReadRow;", true)
  | 107 => ("FrozenVolumeModel", "idTable", "LFrozenVolumeModel$ReadRow;", true)
  | 108 => ("FrozenVolumeModel", "pieceBytes", "[B", true)
  | 109 => ("FrozenVolumeModel", "inodePlace", "[I", true)
  | 110 => ("FrozenVolumeModel", "inodeHere", "[I", true)
  | 111 => ("FrozenVolumeModel", "listingAt", "I", false)
  | 112 => ("FrozenVolumeModel", "listingEnd", "I", false)
  | 113 => ("FrozenVolumeModel", "entryInode", "I", false)
  | 114 => ("FrozenVolumeModel", "entryName", "I", false)
  | 115 => ("FrozenVolumeModel", "entrySize", "I", false)
  | 116 => ("FrozenVolumeModel", "next", "I", false)
  | 117 => ("FrozenVolumeModel", "left", "I", false)
  | 118 => ("FrozenVolumeModel", "header", "I", false)
  | 119 => ("FrozenVolumeModel", "rootNumber", "I", false)
  | 120 => ("FrozenVolumeModel", "entriesTo", "[I", true)
  | 121 => ("FrozenVolumeModel", "foldersIn", "[I", true)
  | 122 => ("FrozenVolumeModel", "fragmentBytes", "[I", true)
  | 123 => ("FrozenVolumeModel", "blockBytes", "[B", true)
  | 124 => ("FrozenVolumeModel", "fileSize", "J", false)
  | 125 => ("FrozenVolumeModel", "fileBegin", "J", false)
  | 126 => ("FrozenVolumeModel", "fileFragment", "J", false)
  | 127 => ("FrozenVolumeModel", "fileOffset", "J", false)
  | 128 => ("FrozenVolumeModel", "fileBlocks", "I", false)
  | _ => ("FrozenVolumeModel", "fileNumbers", "I", false)
def kY12 : Nat → FieldType := fun k => match k with
  | 0 => .array (.byte)
  | 1 => .int
  | 2 => .boolean
  | 3 => .array (.byte)
  | 4 => .int
  | 5 => .int
  | 6 => .array (.int)
  | 7 => .array (.int)
  | 8 => .array (.int)
  | 9 => .array (.int)
  | 10 => .array (.int)
  | 11 => .array (.int)
  | 12 => .array (.int)
  | 13 => .array (.int)
  | 14 => .array (.int)
  | 15 => .array (.int)
  | 16 => .array (.byte)
  | 17 => .int
  | 18 => .array (.byte)
  | 19 => .int
  | 20 => .int
  | 21 => .array (.int)
  | 22 => .array (.int)
  | 23 => .array (.int)
  | 24 => .array (.int)
  | 25 => .array (.byte)
  | 26 => .int
  | 27 => .array (.byte)
  | 28 => .int
  | 29 => .array (.int)
  | 30 => .array (.int)
  | 31 => .int
  | 32 => .array (.int)
  | 33 => .array (.int)
  | 34 => .array (.int)
  | 35 => .array (.int)
  | 36 => .array (.int)
  | 37 => .array (.int)
  | 38 => .array (.int)
  | 39 => .array (.int)
  | 40 => .array (.int)
  | 41 => .array (.int)
  | 42 => .int
  | 43 => .array (.int)
  | 44 => .array (.int)
  | 45 => .array (.int)
  | 46 => .object "FrozenVolumeModel$Tree"
  | 47 => .object "FrozenVolumeModel$Tree"
  | 48 => .object "FrozenVolumeModel$Tree"
  | 49 => .array (.int)
  | 50 => .array (.byte)
  | 51 => .int
  | 52 => .int
  | 53 => .int
  | 54 => .boolean
  | 55 => .array (.byte)
  | 56 => .int
  | 57 => .int
  | 58 => .array (.byte)
  | 59 => .int
  | 60 => .array (.byte)
  | 61 => .int
  | 62 => .boolean
  | 63 => .int
  | 64 => .array (.int)
  | 65 => .array (.int)
  | 66 => .int
  | 67 => .array (.int)
  | 68 => .int
  | 69 => .int
  | 70 => .array (.long)
  | 71 => .array (.int)
  | 72 => .array (.int)
  | 73 => .array (.int)
  | 74 => .array (.int)
  | 75 => .array (.int)
  | 76 => .int
  | 77 => .array (.int)
  | 78 => .int
  | 79 => .array (.int)
  | 80 => .array (.int)
  | 81 => .array (.byte)
  | 82 => .int
  | 83 => .object "FrozenVolumeModel$Row"
  | 84 => .object "FrozenVolumeModel$Row"
  | 85 => .array (.int)
  | 86 => .int
  | 87 => .array (.int)
  | 88 => .array (.int)
  | 89 => .array (.int)
  | 90 => .int
  | 91 => .boolean
  | 92 => .int
  | 93 => .int
  | 94 => .int
  | 95 => .int
  | 96 => .long
  | 97 => .int
  | 98 => .int
  | 99 => .int
  | 100 => .long
  | 101 => .long
  | 102 => .long
  | 103 => .object "FrozenVolumeModel$ReadRow"
  | 104 => .object "FrozenVolumeModel$ReadRow"
  | 105 => .object "FrozenVolumeModel$ReadRow"
  | 106 => .object "FrozenVolumeModel$ReadRow"
  | 107 => .object "FrozenVolumeModel$ReadRow"
  | 108 => .array (.byte)
  | 109 => .array (.int)
  | 110 => .array (.int)
  | 111 => .int
  | 112 => .int
  | 113 => .int
  | 114 => .int
  | 115 => .int
  | 116 => .int
  | 117 => .int
  | 118 => .int
  | 119 => .int
  | 120 => .array (.int)
  | 121 => .array (.int)
  | 122 => .array (.int)
  | 123 => .array (.byte)
  | 124 => .long
  | 125 => .long
  | 126 => .long
  | 127 => .long
  | 128 => .int
  | _ => .int
def kT13 : u_T := fun k => match k with
  | 0 => ("FrozenVolumeModel$Tree", "next", "[I", true)
  | _ => ("FrozenVolumeModel$Tree", "nodes", "I", false)
def kY13 : Nat → FieldType := fun k => match k with
  | 0 => .array (.int)
  | _ => .int
def kT14 : u_T := fun k => match k with
  | 0 => ("FrozenVolumeModel$Row", "bytes", "[B", true)
  | 1 => ("FrozenVolumeModel$Row", "size", "I", false)
  | 2 => ("FrozenVolumeModel$Row", "starts", "[I", true)
  | 3 => ("FrozenVolumeModel$Row", "pieces", "I", false)
  | 4 => ("FrozenVolumeModel$Row", "closed", "[B", true)
  | 5 => ("FrozenVolumeModel$Row", "closedSize", "I", false)
  | _ => ("FrozenVolumeModel$Row", "full", "Z", false)
def kY14 : Nat → FieldType := fun k => match k with
  | 0 => .array (.byte)
  | 1 => .int
  | 2 => .array (.int)
  | 3 => .int
  | 4 => .array (.byte)
  | 5 => .int
  | _ => .boolean
def kT15 : u_T := fun k => match k with
  | 0 => ("FrozenVolumeModel$ReadRow", "bytes", "[B", true)
  | 1 => ("FrozenVolumeModel$ReadRow", "size", "I", false)
  | 2 => ("FrozenVolumeModel$ReadRow", "pieces", "I", false)
  | 3 => ("FrozenVolumeModel$ReadRow", "starts", "[I", true)
  | _ => ("FrozenVolumeModel$ReadRow", "sizes", "[I", true)
def kY15 : Nat → FieldType := fun k => match k with
  | 0 => .array (.byte)
  | 1 => .int
  | 2 => .int
  | 3 => .array (.int)
  | _ => .array (.int)
def cl : List vw_C := [("FrozenVolume", kT0, 8), ("FrozenVolume$Row", kT1, 3), ("FrozenVolume$Tree", kT2, 10), ("FrozenVolume$Node", kT3, 20), ("FrozenVolume$Freezer", kT4, 19), ("FrozenVolume$Packer", kT5, 20), ("FrozenVolume$Code", kT6, 6), ("FrozenVolume$PieceRow", kT7, 3), ("FrozenVolume$Volume", kT8, 18), ("FrozenVolume$Listings", kT9, 17), ("FrozenVolume$Inodes", kT10, 7), ("FrozenVolume$Unpacker", kT11, 17), ("FrozenVolumeModel", kT12, 130), ("FrozenVolumeModel$Tree", kT13, 2), ("FrozenVolumeModel$Row", kT14, 7), ("FrozenVolumeModel$ReadRow", kT15, 5)]
def kY : Nat → Nat → FieldType := fun c => match c with
  | 0 => kY0
  | 1 => kY1
  | 2 => kY2
  | 3 => kY3
  | 4 => kY4
  | 5 => kY5
  | 6 => kY6
  | 7 => kY7
  | 8 => kY8
  | 9 => kY9
  | 10 => kY10
  | 11 => kY11
  | 12 => kY12
  | 13 => kY13
  | 14 => kY14
  | _ => kY15
def Zs : eg_Z := ([("FrozenVolume", "TELLERS", "[I", .ref 1), ("FrozenVolume$Inodes", "FIXED", "[I", .ref 2)], ["FrozenVolume$Node", "FrozenVolume$Row"])
theorem kW0 : ∀ w ∈ u_ws "FrozenVolume" kT0 8, w ∈ Tg := by
  intro w hw
  obtain ⟨j, hj, rfl⟩ := List.mem_map.mp hw
  have hj2 := List.mem_range.mp hj
  clear hw hj
  match j, hj2 with
  | 0, _ => exact tg_t 672 (by decide +kernel) rfl
  | 1, _ => exact tg_t 674 (by decide +kernel) rfl
  | 2, _ => exact tg_t 676 (by decide +kernel) rfl
  | 3, _ => exact tg_t 678 (by decide +kernel) rfl
  | 4, _ => exact tg_t 680 (by decide +kernel) rfl
  | 5, _ => exact tg_t 682 (by decide +kernel) rfl
  | 6, _ => exact tg_t 684 (by decide +kernel) rfl
  | 7, _ => exact tg_t 686 (by decide +kernel) rfl
  | j + 8, h => exact absurd h (by omega)
theorem kV0 : ∀ k, k < 8 → parseFieldDescriptor (kT0 k).2.2.1 = some (kY0 k) := by decide +kernel
theorem kU0 : ∀ a, a < 8 → ∀ b, b < 8 → a ≠ b → (kT0 a).2.1 ≠ (kT0 b).2.1 := by decide +kernel
theorem kW1 : ∀ w ∈ u_ws "FrozenVolume$Row" kT1 3, w ∈ Tg := by
  intro w hw
  obtain ⟨j, hj, rfl⟩ := List.mem_map.mp hw
  have hj2 := List.mem_range.mp hj
  clear hw hj
  match j, hj2 with
  | 0, _ => exact tg_t 52 (by decide +kernel) rfl
  | 1, _ => exact tg_t 54 (by decide +kernel) rfl
  | 2, _ => exact tg_t 56 (by decide +kernel) rfl
  | j + 3, h => exact absurd h (by omega)
theorem kV1 : ∀ k, k < 3 → parseFieldDescriptor (kT1 k).2.2.1 = some (kY1 k) := by decide +kernel
theorem kU1 : ∀ a, a < 3 → ∀ b, b < 3 → a ≠ b → (kT1 a).2.1 ≠ (kT1 b).2.1 := by decide +kernel
theorem kW2 : ∀ w ∈ u_ws "FrozenVolume$Tree" kT2 10, w ∈ Tg := by
  intro w hw
  obtain ⟨j, hj, rfl⟩ := List.mem_map.mp hw
  have hj2 := List.mem_range.mp hj
  clear hw hj
  match j, hj2 with
  | 0, _ => exact tg_t 181 (by decide +kernel) rfl
  | 1, _ => exact tg_t 183 (by decide +kernel) rfl
  | 2, _ => exact tg_t 185 (by decide +kernel) rfl
  | 3, _ => exact tg_t 187 (by decide +kernel) rfl
  | 4, _ => exact tg_t 189 (by decide +kernel) rfl
  | 5, _ => exact tg_t 191 (by decide +kernel) rfl
  | 6, _ => exact tg_t 193 (by decide +kernel) rfl
  | 7, _ => exact tg_t 195 (by decide +kernel) rfl
  | 8, _ => exact tg_t 197 (by decide +kernel) rfl
  | 9, _ => exact tg_t 199 (by decide +kernel) rfl
  | j + 10, h => exact absurd h (by omega)
theorem kV2 : ∀ k, k < 10 → parseFieldDescriptor (kT2 k).2.2.1 = some (kY2 k) := by decide +kernel
theorem kU2 : ∀ a, a < 10 → ∀ b, b < 10 → a ≠ b → (kT2 a).2.1 ≠ (kT2 b).2.1 := by decide +kernel
theorem kW3 : ∀ w ∈ u_ws "FrozenVolume$Node" kT3 20, w ∈ Tg := by
  intro w hw
  obtain ⟨j, hj, rfl⟩ := List.mem_map.mp hw
  have hj2 := List.mem_range.mp hj
  clear hw hj
  match j, hj2 with
  | 0, _ => exact tg_t 122 (by decide +kernel) rfl
  | 1, _ => exact tg_t 124 (by decide +kernel) rfl
  | 2, _ => exact tg_t 126 (by decide +kernel) rfl
  | 3, _ => exact tg_t 128 (by decide +kernel) rfl
  | 4, _ => exact tg_t 130 (by decide +kernel) rfl
  | 5, _ => exact tg_t 132 (by decide +kernel) rfl
  | 6, _ => exact tg_t 134 (by decide +kernel) rfl
  | 7, _ => exact tg_t 136 (by decide +kernel) rfl
  | 8, _ => exact tg_t 138 (by decide +kernel) rfl
  | 9, _ => exact tg_t 140 (by decide +kernel) rfl
  | 10, _ => exact tg_t 142 (by decide +kernel) rfl
  | 11, _ => exact tg_t 144 (by decide +kernel) rfl
  | 12, _ => exact tg_t 146 (by decide +kernel) rfl
  | 13, _ => exact tg_t 148 (by decide +kernel) rfl
  | 14, _ => exact tg_t 150 (by decide +kernel) rfl
  | 15, _ => exact tg_t 152 (by decide +kernel) rfl
  | 16, _ => exact tg_t 154 (by decide +kernel) rfl
  | 17, _ => exact tg_t 156 (by decide +kernel) rfl
  | 18, _ => exact tg_t 158 (by decide +kernel) rfl
  | 19, _ => exact tg_t 160 (by decide +kernel) rfl
  | j + 20, h => exact absurd h (by omega)
theorem kV3 : ∀ k, k < 20 → parseFieldDescriptor (kT3 k).2.2.1 = some (kY3 k) := by decide +kernel
theorem kU3 : ∀ a, a < 20 → ∀ b, b < 20 → a ≠ b → (kT3 a).2.1 ≠ (kT3 b).2.1 := by decide +kernel
theorem kW4 : ∀ w ∈ u_ws "FrozenVolume$Freezer" kT4 19, w ∈ Tg := by
  intro w hw
  obtain ⟨j, hj, rfl⟩ := List.mem_map.mp hw
  have hj2 := List.mem_range.mp hj
  clear hw hj
  match j, hj2 with
  | 0, _ => exact tg_t 383 (by decide +kernel) rfl
  | 1, _ => exact tg_t 385 (by decide +kernel) rfl
  | 2, _ => exact tg_t 387 (by decide +kernel) rfl
  | 3, _ => exact tg_t 389 (by decide +kernel) rfl
  | 4, _ => exact tg_t 391 (by decide +kernel) rfl
  | 5, _ => exact tg_t 393 (by decide +kernel) rfl
  | 6, _ => exact tg_t 395 (by decide +kernel) rfl
  | 7, _ => exact tg_t 397 (by decide +kernel) rfl
  | 8, _ => exact tg_t 399 (by decide +kernel) rfl
  | 9, _ => exact tg_t 401 (by decide +kernel) rfl
  | 10, _ => exact tg_t 403 (by decide +kernel) rfl
  | 11, _ => exact tg_t 405 (by decide +kernel) rfl
  | 12, _ => exact tg_t 407 (by decide +kernel) rfl
  | 13, _ => exact tg_t 409 (by decide +kernel) rfl
  | 14, _ => exact tg_t 411 (by decide +kernel) rfl
  | 15, _ => exact tg_t 413 (by decide +kernel) rfl
  | 16, _ => exact tg_t 415 (by decide +kernel) rfl
  | 17, _ => exact tg_t 417 (by decide +kernel) rfl
  | 18, _ => exact tg_t 419 (by decide +kernel) rfl
  | j + 19, h => exact absurd h (by omega)
theorem kV4 : ∀ k, k < 19 → parseFieldDescriptor (kT4 k).2.2.1 = some (kY4 k) := by decide +kernel
theorem kU4 : ∀ a, a < 19 → ∀ b, b < 19 → a ≠ b → (kT4 a).2.1 ≠ (kT4 b).2.1 := by decide +kernel
theorem kW5 : ∀ w ∈ u_ws "FrozenVolume$Packer" kT5 20, w ∈ Tg := by
  intro w hw
  obtain ⟨j, hj, rfl⟩ := List.mem_map.mp hw
  have hj2 := List.mem_range.mp hj
  clear hw hj
  match j, hj2 with
  | 0, _ => exact tg_t 293 (by decide +kernel) rfl
  | 1, _ => exact tg_t 295 (by decide +kernel) rfl
  | 2, _ => exact tg_t 297 (by decide +kernel) rfl
  | 3, _ => exact tg_t 299 (by decide +kernel) rfl
  | 4, _ => exact tg_t 301 (by decide +kernel) rfl
  | 5, _ => exact tg_t 303 (by decide +kernel) rfl
  | 6, _ => exact tg_t 305 (by decide +kernel) rfl
  | 7, _ => exact tg_t 307 (by decide +kernel) rfl
  | 8, _ => exact tg_t 309 (by decide +kernel) rfl
  | 9, _ => exact tg_t 311 (by decide +kernel) rfl
  | 10, _ => exact tg_t 313 (by decide +kernel) rfl
  | 11, _ => exact tg_t 315 (by decide +kernel) rfl
  | 12, _ => exact tg_t 317 (by decide +kernel) rfl
  | 13, _ => exact tg_t 319 (by decide +kernel) rfl
  | 14, _ => exact tg_t 321 (by decide +kernel) rfl
  | 15, _ => exact tg_t 323 (by decide +kernel) rfl
  | 16, _ => exact tg_t 325 (by decide +kernel) rfl
  | 17, _ => exact tg_t 327 (by decide +kernel) rfl
  | 18, _ => exact tg_t 329 (by decide +kernel) rfl
  | 19, _ => exact tg_t 331 (by decide +kernel) rfl
  | j + 20, h => exact absurd h (by omega)
theorem kV5 : ∀ k, k < 20 → parseFieldDescriptor (kT5 k).2.2.1 = some (kY5 k) := by decide +kernel
theorem kU5 : ∀ a, a < 20 → ∀ b, b < 20 → a ≠ b → (kT5 a).2.1 ≠ (kT5 b).2.1 := by decide +kernel
theorem kW6 : ∀ w ∈ u_ws "FrozenVolume$Code" kT6 6, w ∈ Tg := by
  intro w hw
  obtain ⟨j, hj, rfl⟩ := List.mem_map.mp hw
  have hj2 := List.mem_range.mp hj
  clear hw hj
  match j, hj2 with
  | 0, _ => exact tg_t 241 (by decide +kernel) rfl
  | 1, _ => exact tg_t 243 (by decide +kernel) rfl
  | 2, _ => exact tg_t 245 (by decide +kernel) rfl
  | 3, _ => exact tg_t 247 (by decide +kernel) rfl
  | 4, _ => exact tg_t 249 (by decide +kernel) rfl
  | 5, _ => exact tg_t 251 (by decide +kernel) rfl
  | j + 6, h => exact absurd h (by omega)
theorem kV6 : ∀ k, k < 6 → parseFieldDescriptor (kT6 k).2.2.1 = some (kY6 k) := by decide +kernel
theorem kU6 : ∀ a, a < 6 → ∀ b, b < 6 → a ≠ b → (kT6 a).2.1 ≠ (kT6 b).2.1 := by decide +kernel
theorem kW7 : ∀ w ∈ u_ws "FrozenVolume$PieceRow" kT7 3, w ∈ Tg := by
  intro w hw
  obtain ⟨j, hj, rfl⟩ := List.mem_map.mp hw
  have hj2 := List.mem_range.mp hj
  clear hw hj
  match j, hj2 with
  | 0, _ => exact tg_t 353 (by decide +kernel) rfl
  | 1, _ => exact tg_t 355 (by decide +kernel) rfl
  | 2, _ => exact tg_t 357 (by decide +kernel) rfl
  | j + 3, h => exact absurd h (by omega)
theorem kV7 : ∀ k, k < 3 → parseFieldDescriptor (kT7 k).2.2.1 = some (kY7 k) := by decide +kernel
theorem kU7 : ∀ a, a < 3 → ∀ b, b < 3 → a ≠ b → (kT7 a).2.1 ≠ (kT7 b).2.1 := by decide +kernel
theorem kW8 : ∀ w ∈ u_ws "FrozenVolume$Volume" kT8 18, w ∈ Tg := by
  intro w hw
  obtain ⟨j, hj, rfl⟩ := List.mem_map.mp hw
  have hj2 := List.mem_range.mp hj
  clear hw hj
  match j, hj2 with
  | 0, _ => exact tg_t 627 (by decide +kernel) rfl
  | 1, _ => exact tg_t 629 (by decide +kernel) rfl
  | 2, _ => exact tg_t 631 (by decide +kernel) rfl
  | 3, _ => exact tg_t 633 (by decide +kernel) rfl
  | 4, _ => exact tg_t 635 (by decide +kernel) rfl
  | 5, _ => exact tg_t 637 (by decide +kernel) rfl
  | 6, _ => exact tg_t 639 (by decide +kernel) rfl
  | 7, _ => exact tg_t 641 (by decide +kernel) rfl
  | 8, _ => exact tg_t 643 (by decide +kernel) rfl
  | 9, _ => exact tg_t 645 (by decide +kernel) rfl
  | 10, _ => exact tg_t 647 (by decide +kernel) rfl
  | 11, _ => exact tg_t 649 (by decide +kernel) rfl
  | 12, _ => exact tg_t 651 (by decide +kernel) rfl
  | 13, _ => exact tg_t 653 (by decide +kernel) rfl
  | 14, _ => exact tg_t 655 (by decide +kernel) rfl
  | 15, _ => exact tg_t 657 (by decide +kernel) rfl
  | 16, _ => exact tg_t 659 (by decide +kernel) rfl
  | 17, _ => exact tg_t 661 (by decide +kernel) rfl
  | j + 18, h => exact absurd h (by omega)
theorem kV8 : ∀ k, k < 18 → parseFieldDescriptor (kT8 k).2.2.1 = some (kY8 k) := by decide +kernel
theorem kU8 : ∀ a, a < 18 → ∀ b, b < 18 → a ≠ b → (kT8 a).2.1 ≠ (kT8 b).2.1 := by decide +kernel
theorem kW9 : ∀ w ∈ u_ws "FrozenVolume$Listings" kT9 17, w ∈ Tg := by
  intro w hw
  obtain ⟨j, hj, rfl⟩ := List.mem_map.mp hw
  have hj2 := List.mem_range.mp hj
  clear hw hj
  match j, hj2 with
  | 0, _ => exact tg_t 500 (by decide +kernel) rfl
  | 1, _ => exact tg_t 502 (by decide +kernel) rfl
  | 2, _ => exact tg_t 504 (by decide +kernel) rfl
  | 3, _ => exact tg_t 506 (by decide +kernel) rfl
  | 4, _ => exact tg_t 508 (by decide +kernel) rfl
  | 5, _ => exact tg_t 510 (by decide +kernel) rfl
  | 6, _ => exact tg_t 512 (by decide +kernel) rfl
  | 7, _ => exact tg_t 514 (by decide +kernel) rfl
  | 8, _ => exact tg_t 516 (by decide +kernel) rfl
  | 9, _ => exact tg_t 518 (by decide +kernel) rfl
  | 10, _ => exact tg_t 520 (by decide +kernel) rfl
  | 11, _ => exact tg_t 522 (by decide +kernel) rfl
  | 12, _ => exact tg_t 524 (by decide +kernel) rfl
  | 13, _ => exact tg_t 526 (by decide +kernel) rfl
  | 14, _ => exact tg_t 528 (by decide +kernel) rfl
  | 15, _ => exact tg_t 530 (by decide +kernel) rfl
  | 16, _ => exact tg_t 532 (by decide +kernel) rfl
  | j + 17, h => exact absurd h (by omega)
theorem kV9 : ∀ k, k < 17 → parseFieldDescriptor (kT9 k).2.2.1 = some (kY9 k) := by decide +kernel
theorem kU9 : ∀ a, a < 17 → ∀ b, b < 17 → a ≠ b → (kT9 a).2.1 ≠ (kT9 b).2.1 := by decide +kernel
theorem kW10 : ∀ w ∈ u_ws "FrozenVolume$Inodes" kT10 7, w ∈ Tg := by
  intro w hw
  obtain ⟨j, hj, rfl⟩ := List.mem_map.mp hw
  have hj2 := List.mem_range.mp hj
  clear hw hj
  match j, hj2 with
  | 0, _ => exact tg_t 459 (by decide +kernel) rfl
  | 1, _ => exact tg_t 461 (by decide +kernel) rfl
  | 2, _ => exact tg_t 463 (by decide +kernel) rfl
  | 3, _ => exact tg_t 465 (by decide +kernel) rfl
  | 4, _ => exact tg_t 467 (by decide +kernel) rfl
  | 5, _ => exact tg_t 469 (by decide +kernel) rfl
  | 6, _ => exact tg_t 471 (by decide +kernel) rfl
  | j + 7, h => exact absurd h (by omega)
theorem kV10 : ∀ k, k < 7 → parseFieldDescriptor (kT10 k).2.2.1 = some (kY10 k) := by decide +kernel
theorem kU10 : ∀ a, a < 7 → ∀ b, b < 7 → a ≠ b → (kT10 a).2.1 ≠ (kT10 b).2.1 := by decide +kernel
theorem kW11 : ∀ w ∈ u_ws "FrozenVolume$Unpacker" kT11 17, w ∈ Tg := by
  intro w hw
  obtain ⟨j, hj, rfl⟩ := List.mem_map.mp hw
  have hj2 := List.mem_range.mp hj
  clear hw hj
  match j, hj2 with
  | 0, _ => exact tg_t 571 (by decide +kernel) rfl
  | 1, _ => exact tg_t 573 (by decide +kernel) rfl
  | 2, _ => exact tg_t 575 (by decide +kernel) rfl
  | 3, _ => exact tg_t 577 (by decide +kernel) rfl
  | 4, _ => exact tg_t 579 (by decide +kernel) rfl
  | 5, _ => exact tg_t 581 (by decide +kernel) rfl
  | 6, _ => exact tg_t 583 (by decide +kernel) rfl
  | 7, _ => exact tg_t 585 (by decide +kernel) rfl
  | 8, _ => exact tg_t 587 (by decide +kernel) rfl
  | 9, _ => exact tg_t 589 (by decide +kernel) rfl
  | 10, _ => exact tg_t 591 (by decide +kernel) rfl
  | 11, _ => exact tg_t 593 (by decide +kernel) rfl
  | 12, _ => exact tg_t 595 (by decide +kernel) rfl
  | 13, _ => exact tg_t 597 (by decide +kernel) rfl
  | 14, _ => exact tg_t 599 (by decide +kernel) rfl
  | 15, _ => exact tg_t 601 (by decide +kernel) rfl
  | 16, _ => exact tg_t 603 (by decide +kernel) rfl
  | j + 17, h => exact absurd h (by omega)
theorem kV11 : ∀ k, k < 17 → parseFieldDescriptor (kT11 k).2.2.1 = some (kY11 k) := by decide +kernel
theorem kU11 : ∀ a, a < 17 → ∀ b, b < 17 → a ≠ b → (kT11 a).2.1 ≠ (kT11 b).2.1 := by decide +kernel
theorem kW12 : ∀ w ∈ u_ws "FrozenVolumeModel" kT12 130, w ∈ Tg := by
  intro w hw
  obtain ⟨j, hj, rfl⟩ := List.mem_map.mp hw
  have hj2 := List.mem_range.mp hj
  clear hw hj
  match j, hj2 with
  | 0, _ => exact tg_t 1884 (by decide +kernel) rfl
  | 1, _ => exact tg_t 1886 (by decide +kernel) rfl
  | 2, _ => exact tg_t 1888 (by decide +kernel) rfl
  | 3, _ => exact tg_t 1890 (by decide +kernel) rfl
  | 4, _ => exact tg_t 1892 (by decide +kernel) rfl
  | 5, _ => exact tg_t 1894 (by decide +kernel) rfl
  | 6, _ => exact tg_t 1896 (by decide +kernel) rfl
  | 7, _ => exact tg_t 1898 (by decide +kernel) rfl
  | 8, _ => exact tg_t 1900 (by decide +kernel) rfl
  | 9, _ => exact tg_t 1902 (by decide +kernel) rfl
  | 10, _ => exact tg_t 1904 (by decide +kernel) rfl
  | 11, _ => exact tg_t 1906 (by decide +kernel) rfl
  | 12, _ => exact tg_t 1908 (by decide +kernel) rfl
  | 13, _ => exact tg_t 1910 (by decide +kernel) rfl
  | 14, _ => exact tg_t 1912 (by decide +kernel) rfl
  | 15, _ => exact tg_t 1914 (by decide +kernel) rfl
  | 16, _ => exact tg_t 1916 (by decide +kernel) rfl
  | 17, _ => exact tg_t 1918 (by decide +kernel) rfl
  | 18, _ => exact tg_t 1920 (by decide +kernel) rfl
  | 19, _ => exact tg_t 1922 (by decide +kernel) rfl
  | 20, _ => exact tg_t 1924 (by decide +kernel) rfl
  | 21, _ => exact tg_t 1926 (by decide +kernel) rfl
  | 22, _ => exact tg_t 1928 (by decide +kernel) rfl
  | 23, _ => exact tg_t 1930 (by decide +kernel) rfl
  | 24, _ => exact tg_t 1932 (by decide +kernel) rfl
  | 25, _ => exact tg_t 1934 (by decide +kernel) rfl
  | 26, _ => exact tg_t 1936 (by decide +kernel) rfl
  | 27, _ => exact tg_t 1938 (by decide +kernel) rfl
  | 28, _ => exact tg_t 1940 (by decide +kernel) rfl
  | 29, _ => exact tg_t 1942 (by decide +kernel) rfl
  | 30, _ => exact tg_t 1944 (by decide +kernel) rfl
  | 31, _ => exact tg_t 1946 (by decide +kernel) rfl
  | 32, _ => exact tg_t 1948 (by decide +kernel) rfl
  | 33, _ => exact tg_t 1950 (by decide +kernel) rfl
  | 34, _ => exact tg_t 1952 (by decide +kernel) rfl
  | 35, _ => exact tg_t 1954 (by decide +kernel) rfl
  | 36, _ => exact tg_t 1956 (by decide +kernel) rfl
  | 37, _ => exact tg_t 1958 (by decide +kernel) rfl
  | 38, _ => exact tg_t 1960 (by decide +kernel) rfl
  | 39, _ => exact tg_t 1962 (by decide +kernel) rfl
  | 40, _ => exact tg_t 1964 (by decide +kernel) rfl
  | 41, _ => exact tg_t 1966 (by decide +kernel) rfl
  | 42, _ => exact tg_t 1968 (by decide +kernel) rfl
  | 43, _ => exact tg_t 1970 (by decide +kernel) rfl
  | 44, _ => exact tg_t 1972 (by decide +kernel) rfl
  | 45, _ => exact tg_t 1974 (by decide +kernel) rfl
  | 46, _ => exact tg_t 1976 (by decide +kernel) rfl
  | 47, _ => exact tg_t 1978 (by decide +kernel) rfl
  | 48, _ => exact tg_t 1980 (by decide +kernel) rfl
  | 49, _ => exact tg_t 1982 (by decide +kernel) rfl
  | 50, _ => exact tg_t 1984 (by decide +kernel) rfl
  | 51, _ => exact tg_t 1986 (by decide +kernel) rfl
  | 52, _ => exact tg_t 1988 (by decide +kernel) rfl
  | 53, _ => exact tg_t 1990 (by decide +kernel) rfl
  | 54, _ => exact tg_t 1992 (by decide +kernel) rfl
  | 55, _ => exact tg_t 1994 (by decide +kernel) rfl
  | 56, _ => exact tg_t 1996 (by decide +kernel) rfl
  | 57, _ => exact tg_t 1998 (by decide +kernel) rfl
  | 58, _ => exact tg_t 2000 (by decide +kernel) rfl
  | 59, _ => exact tg_t 2002 (by decide +kernel) rfl
  | 60, _ => exact tg_t 2004 (by decide +kernel) rfl
  | 61, _ => exact tg_t 2006 (by decide +kernel) rfl
  | 62, _ => exact tg_t 2008 (by decide +kernel) rfl
  | 63, _ => exact tg_t 2010 (by decide +kernel) rfl
  | 64, _ => exact tg_t 2012 (by decide +kernel) rfl
  | 65, _ => exact tg_t 2014 (by decide +kernel) rfl
  | 66, _ => exact tg_t 2016 (by decide +kernel) rfl
  | 67, _ => exact tg_t 2018 (by decide +kernel) rfl
  | 68, _ => exact tg_t 2020 (by decide +kernel) rfl
  | 69, _ => exact tg_t 2022 (by decide +kernel) rfl
  | 70, _ => exact tg_t 2024 (by decide +kernel) rfl
  | 71, _ => exact tg_t 2026 (by decide +kernel) rfl
  | 72, _ => exact tg_t 2028 (by decide +kernel) rfl
  | 73, _ => exact tg_t 2030 (by decide +kernel) rfl
  | 74, _ => exact tg_t 2032 (by decide +kernel) rfl
  | 75, _ => exact tg_t 2034 (by decide +kernel) rfl
  | 76, _ => exact tg_t 2036 (by decide +kernel) rfl
  | 77, _ => exact tg_t 2038 (by decide +kernel) rfl
  | 78, _ => exact tg_t 2040 (by decide +kernel) rfl
  | 79, _ => exact tg_t 2042 (by decide +kernel) rfl
  | 80, _ => exact tg_t 2044 (by decide +kernel) rfl
  | 81, _ => exact tg_t 2046 (by decide +kernel) rfl
  | 82, _ => exact tg_t 2048 (by decide +kernel) rfl
  | 83, _ => exact tg_t 2050 (by decide +kernel) rfl
  | 84, _ => exact tg_t 2052 (by decide +kernel) rfl
  | 85, _ => exact tg_t 2054 (by decide +kernel) rfl
  | 86, _ => exact tg_t 2056 (by decide +kernel) rfl
  | 87, _ => exact tg_t 2058 (by decide +kernel) rfl
  | 88, _ => exact tg_t 2060 (by decide +kernel) rfl
  | 89, _ => exact tg_t 2062 (by decide +kernel) rfl
  | 90, _ => exact tg_t 2064 (by decide +kernel) rfl
  | 91, _ => exact tg_t 2066 (by decide +kernel) rfl
  | 92, _ => exact tg_t 2068 (by decide +kernel) rfl
  | 93, _ => exact tg_t 2070 (by decide +kernel) rfl
  | 94, _ => exact tg_t 2072 (by decide +kernel) rfl
  | 95, _ => exact tg_t 2074 (by decide +kernel) rfl
  | 96, _ => exact tg_t 2076 (by decide +kernel) rfl
  | 97, _ => exact tg_t 2078 (by decide +kernel) rfl
  | 98, _ => exact tg_t 2080 (by decide +kernel) rfl
  | 99, _ => exact tg_t 2082 (by decide +kernel) rfl
  | 100, _ => exact tg_t 2084 (by decide +kernel) rfl
  | 101, _ => exact tg_t 2086 (by decide +kernel) rfl
  | 102, _ => exact tg_t 2088 (by decide +kernel) rfl
  | 103, _ => exact tg_t 2090 (by decide +kernel) rfl
  | 104, _ => exact tg_t 2092 (by decide +kernel) rfl
  | 105, _ => exact tg_t 2094 (by decide +kernel) rfl
  | 106, _ => exact tg_t 2096 (by decide +kernel) rfl
  | 107, _ => exact tg_t 2098 (by decide +kernel) rfl
  | 108, _ => exact tg_t 2100 (by decide +kernel) rfl
  | 109, _ => exact tg_t 2102 (by decide +kernel) rfl
  | 110, _ => exact tg_t 2104 (by decide +kernel) rfl
  | 111, _ => exact tg_t 2106 (by decide +kernel) rfl
  | 112, _ => exact tg_t 2108 (by decide +kernel) rfl
  | 113, _ => exact tg_t 2110 (by decide +kernel) rfl
  | 114, _ => exact tg_t 2112 (by decide +kernel) rfl
  | 115, _ => exact tg_t 2114 (by decide +kernel) rfl
  | 116, _ => exact tg_t 2116 (by decide +kernel) rfl
  | 117, _ => exact tg_t 2118 (by decide +kernel) rfl
  | 118, _ => exact tg_t 2120 (by decide +kernel) rfl
  | 119, _ => exact tg_t 2122 (by decide +kernel) rfl
  | 120, _ => exact tg_t 2124 (by decide +kernel) rfl
  | 121, _ => exact tg_t 2126 (by decide +kernel) rfl
  | 122, _ => exact tg_t 2128 (by decide +kernel) rfl
  | 123, _ => exact tg_t 2130 (by decide +kernel) rfl
  | 124, _ => exact tg_t 2132 (by decide +kernel) rfl
  | 125, _ => exact tg_t 2134 (by decide +kernel) rfl
  | 126, _ => exact tg_t 2136 (by decide +kernel) rfl
  | 127, _ => exact tg_t 2138 (by decide +kernel) rfl
  | 128, _ => exact tg_t 2140 (by decide +kernel) rfl
  | 129, _ => exact tg_t 2142 (by decide +kernel) rfl
  | j + 130, h => exact absurd h (by omega)
theorem kV12 : ∀ k, k < 130 → parseFieldDescriptor (kT12 k).2.2.1 = some (kY12 k) := by decide +kernel
theorem kU12 : ∀ a, a < 130 → ∀ b, b < 130 → a ≠ b → (kT12 a).2.1 ≠ (kT12 b).2.1 := by decide +kernel
theorem kW13 : ∀ w ∈ u_ws "FrozenVolumeModel$Tree" kT13 2, w ∈ Tg := by
  intro w hw
  obtain ⟨j, hj, rfl⟩ := List.mem_map.mp hw
  have hj2 := List.mem_range.mp hj
  clear hw hj
  match j, hj2 with
  | 0, _ => exact tg_t 1685 (by decide +kernel) rfl
  | 1, _ => exact tg_t 1687 (by decide +kernel) rfl
  | j + 2, h => exact absurd h (by omega)
theorem kV13 : ∀ k, k < 2 → parseFieldDescriptor (kT13 k).2.2.1 = some (kY13 k) := by decide +kernel
theorem kU13 : ∀ a, a < 2 → ∀ b, b < 2 → a ≠ b → (kT13 a).2.1 ≠ (kT13 b).2.1 := by decide +kernel
theorem kW14 : ∀ w ∈ u_ws "FrozenVolumeModel$Row" kT14 7, w ∈ Tg := by
  intro w hw
  obtain ⟨j, hj, rfl⟩ := List.mem_map.mp hw
  have hj2 := List.mem_range.mp hj
  clear hw hj
  match j, hj2 with
  | 0, _ => exact tg_t 1713 (by decide +kernel) rfl
  | 1, _ => exact tg_t 1715 (by decide +kernel) rfl
  | 2, _ => exact tg_t 1717 (by decide +kernel) rfl
  | 3, _ => exact tg_t 1719 (by decide +kernel) rfl
  | 4, _ => exact tg_t 1721 (by decide +kernel) rfl
  | 5, _ => exact tg_t 1723 (by decide +kernel) rfl
  | 6, _ => exact tg_t 1725 (by decide +kernel) rfl
  | j + 7, h => exact absurd h (by omega)
theorem kV14 : ∀ k, k < 7 → parseFieldDescriptor (kT14 k).2.2.1 = some (kY14 k) := by decide +kernel
theorem kU14 : ∀ a, a < 7 → ∀ b, b < 7 → a ≠ b → (kT14 a).2.1 ≠ (kT14 b).2.1 := by decide +kernel
theorem kW15 : ∀ w ∈ u_ws "FrozenVolumeModel$ReadRow" kT15 5, w ∈ Tg := by
  intro w hw
  obtain ⟨j, hj, rfl⟩ := List.mem_map.mp hw
  have hj2 := List.mem_range.mp hj
  clear hw hj
  match j, hj2 with
  | 0, _ => exact tg_t 1743 (by decide +kernel) rfl
  | 1, _ => exact tg_t 1745 (by decide +kernel) rfl
  | 2, _ => exact tg_t 1747 (by decide +kernel) rfl
  | 3, _ => exact tg_t 1749 (by decide +kernel) rfl
  | 4, _ => exact tg_t 1751 (by decide +kernel) rfl
  | j + 5, h => exact absurd h (by omega)
theorem kV15 : ∀ k, k < 5 → parseFieldDescriptor (kT15 k).2.2.1 = some (kY15 k) := by decide +kernel
theorem kU15 : ∀ a, a < 5 → ∀ b, b < 5 → a ≠ b → (kT15 a).2.1 ≠ (kT15 b).2.1 := by decide +kernel
theorem cl_ok : eg_clok Tg cl kY := by
  intro ci q hq
  match ci, hq with
  | 0, hq => cases hq; exact ⟨kW0, kV0, kU0, tg_t 20 (by decide +kernel) rfl, tg_t 1 (by decide +kernel) rfl⟩
  | 1, hq => cases hq; exact ⟨kW1, kV1, kU1, tg_t 28 (by decide +kernel) rfl, tg_t 2 (by decide +kernel) rfl⟩
  | 2, hq => cases hq; exact ⟨kW2, kV2, kU2, tg_t 61 (by decide +kernel) rfl, tg_t 3 (by decide +kernel) rfl⟩
  | 3, hq => cases hq; exact ⟨kW3, kV3, kU3, tg_t 72 (by decide +kernel) rfl, tg_t 4 (by decide +kernel) rfl⟩
  | 4, hq => cases hq; exact ⟨kW4, kV4, kU4, tg_t 203 (by decide +kernel) rfl, tg_t 5 (by decide +kernel) rfl⟩
  | 5, hq => cases hq; exact ⟨kW5, kV5, kU5, tg_t 213 (by decide +kernel) rfl, tg_t 6 (by decide +kernel) rfl⟩
  | 6, hq => cases hq; exact ⟨kW6, kV6, kU6, tg_t 224 (by decide +kernel) rfl, tg_t 7 (by decide +kernel) rfl⟩
  | 7, hq => cases hq; exact ⟨kW7, kV7, kU7, tg_t 336 (by decide +kernel) rfl, tg_t 8 (by decide +kernel) rfl⟩
  | 8, hq => cases hq; exact ⟨kW8, kV8, kU8, tg_t 423 (by decide +kernel) rfl, tg_t 9 (by decide +kernel) rfl⟩
  | 9, hq => cases hq; exact ⟨kW9, kV9, kU9, tg_t 432 (by decide +kernel) rfl, tg_t 10 (by decide +kernel) rfl⟩
  | 10, hq => cases hq; exact ⟨kW10, kV10, kU10, tg_t 438 (by decide +kernel) rfl, tg_t 11 (by decide +kernel) rfl⟩
  | 11, hq => cases hq; exact ⟨kW11, kV11, kU11, tg_t 540 (by decide +kernel) rfl, tg_t 12 (by decide +kernel) rfl⟩
  | 12, hq => cases hq; exact ⟨kW12, kV12, kU12, tg_t 1668 (by decide +kernel) rfl, tg_t 13 (by decide +kernel) rfl⟩
  | 13, hq => cases hq; exact ⟨kW13, kV13, kU13, tg_t 1677 (by decide +kernel) rfl, tg_t 14 (by decide +kernel) rfl⟩
  | 14, hq => cases hq; exact ⟨kW14, kV14, kU14, tg_t 1692 (by decide +kernel) rfl, tg_t 15 (by decide +kernel) rfl⟩
  | 15, hq => cases hq; exact ⟨kW15, kV15, kU15, tg_t 1730 (by decide +kernel) rfl, tg_t 16 (by decide +kernel) rfl⟩
  | n + 16, hq => simp [cl] at hq
theorem nt_ok : ∀ t, eg_nt t = true → Cond.arrayClass (newarray.typeOf t) ∈ Tg := by
  intro t ht
  cases t <;> first | (cases ht; done) | skip
  · exact tg_t 334 (by decide +kernel) rfl
  · exact tg_t 59 (by decide +kernel) rfl
  · exact tg_t 254 (by decide +kernel) rfl
  · exact tg_t 1728 (by decide +kernel) rfl
