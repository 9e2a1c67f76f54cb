/-! THE SYSTEM: its classes by number, their fields in the order of the slots, its cells by place -/
def mm_cn (c : Nat) : String := (mm_nth ["PlainPacks", "PlainPacks$Source", "PlainPacks$Sink", "PlainPacks$Writer", "PlainPacks$Turnings", "PlainPacks$Finder", "PlainPacks$Blocks", "PlainPacks$Codes", "PlainPacks$Words", "PlainPacks$Pieces", "PlainPacks$Sorted", "PlainPacks$Chances", "PlainPacksModel", "PlainPacksLaw", "java/lang/Math", "java/util/Arrays"] c).getD ""
def mm_f0 : List (String × String × String × Bool) := [("PlainPacks", "tape", "LPlainPacks$Source;", true), ("PlainPacks", "output", "LPlainPacks$Sink;", true), ("PlainPacks", "writer", "LPlainPacks$Writer;", true), ("PlainPacks", "turnings", "LPlainPacks$Turnings;", true), ("PlainPacks", "blocks", "LPlainPacks$Blocks;", true), ("PlainPacks", "words", "LPlainPacks$Words;", true), ("PlainPacks", "pieces", "LPlainPacks$Pieces;", true), ("PlainPacks", "sorted", "LPlainPacks$Sorted;", true), ("PlainPacks", "chances", "LPlainPacks$Chances;", true), ("PlainPacks", "weights", "[I", true), ("PlainPacks", "joins", "[I", true)]
def mm_f1 : List (String × String × String × Bool) := [("PlainPacks$Source", "bytes", "[I", true), ("PlainPacks$Source", "size", "I", false), ("PlainPacks$Source", "read", "I", false), ("PlainPacks$Source", "edge", "I", false), ("PlainPacks$Source", "highFirst", "Z", false), ("PlainPacks$Source", "held", "I", false), ("PlainPacks$Source", "left", "I", false)]
def mm_f2 : List (String × String × String × Bool) := [("PlainPacks$Sink", "bytes", "[I", true), ("PlainPacks$Sink", "size", "I", false), ("PlainPacks$Sink", "plain", "I", false), ("PlainPacks$Sink", "copies", "I", false), ("PlainPacks$Sink", "longest", "I", false), ("PlainPacks$Sink", "farthest", "I", false), ("PlainPacks$Sink", "blocks", "I", false)]
def mm_f3 : List (String × String × String × Bool) := [("PlainPacks$Writer", "bytes", "[I", true), ("PlainPacks$Writer", "size", "I", false), ("PlainPacks$Writer", "over", "Z", false), ("PlainPacks$Writer", "highFirst", "Z", false), ("PlainPacks$Writer", "held", "I", false), ("PlainPacks$Writer", "filled", "I", false)]
def mm_f4 : List (String × String × String × Bool) := [("PlainPacks$Turnings", "order", "[I", true), ("PlainPacks$Turnings", "rank", "[I", true), ("PlainPacks$Turnings", "spareOrder", "[I", true), ("PlainPacks$Turnings", "spareRank", "[I", true), ("PlainPacks$Turnings", "counts", "[I", true), ("PlainPacks$Turnings", "size", "I", false), ("PlainPacks$Turnings", "ranks", "I", false)]
def mm_f5 : List (String × String × String × Bool) := [("PlainPacks$Finder", "best", "I", false), ("PlainPacks$Finder", "away", "I", false), ("PlainPacks$Finder", "heads", "[I", true), ("PlainPacks$Finder", "before", "[I", true), ("PlainPacks$Finder", "bytes", "[I", true), ("PlainPacks$Finder", "source", "LPlainPacks$Source;", true), ("PlainPacks$Finder", "size", "I", false), ("PlainPacks$Finder", "entered", "I", false)]
def mm_f6 : List (String × String × String × Bool) := [("PlainPacks$Blocks", "source", "LPlainPacks$Source;", true), ("PlainPacks$Blocks", "sink", "LPlainPacks$Sink;", true), ("PlainPacks$Blocks", "writer", "LPlainPacks$Writer;", true), ("PlainPacks$Blocks", "finder", "LPlainPacks$Finder;", true), ("PlainPacks$Blocks", "letters", "LPlainPacks$Codes;", true), ("PlainPacks$Blocks", "distances", "LPlainPacks$Codes;", true), ("PlainPacks$Blocks", "rowCodes", "LPlainPacks$Codes;", true), ("PlainPacks$Blocks", "row", "[I", true), ("PlainPacks$Blocks", "letterCount", "I", false), ("PlainPacks$Blocks", "distanceCount", "I", false), ("PlainPacks$Blocks", "costs", "[I", true), ("PlainPacks$Blocks", "reach", "[I", true)]
def mm_f7 : List (String × String × String × Bool) := [("PlainPacks$Codes", "lengths", "[I", true), ("PlainPacks$Codes", "letters", "[I", true), ("PlainPacks$Codes", "counts", "[I", true), ("PlainPacks$Codes", "starts", "[I", true), ("PlainPacks$Codes", "used", "I", false), ("PlainPacks$Codes", "space", "I", false)]
def mm_f8 : List (String × String × String × Bool) := [("PlainPacks$Words", "source", "LPlainPacks$Source;", true), ("PlainPacks$Words", "sink", "LPlainPacks$Sink;", true), ("PlainPacks$Words", "writer", "LPlainPacks$Writer;", true), ("PlainPacks$Words", "places", "[I", true), ("PlainPacks$Words", "sizes", "[I", true), ("PlainPacks$Words", "longer", "[I", true), ("PlainPacks$Words", "beside", "[I", true), ("PlainPacks$Words", "lastByte", "[I", true), ("PlainPacks$Words", "clear", "I", false), ("PlainPacks$Words", "width", "I", false), ("PlainPacks$Words", "nextWord", "I", false), ("PlainPacks$Words", "sooner", "I", false), ("PlainPacks$Words", "first", "Z", false), ("PlainPacks$Words", "placeBefore", "I", false), ("PlainPacks$Words", "sizeBefore", "I", false)]
def mm_f9 : List (String × String × String × Bool) := [("PlainPacks$Pieces", "source", "LPlainPacks$Source;", true), ("PlainPacks$Pieces", "sink", "LPlainPacks$Sink;", true), ("PlainPacks$Pieces", "writer", "LPlainPacks$Writer;", true), ("PlainPacks$Pieces", "finder", "LPlainPacks$Finder;", true), ("PlainPacks$Pieces", "flags", "I", false), ("PlainPacks$Pieces", "blockMost", "J", false)]
def mm_f10 : List (String × String × String × Bool) := [("PlainPacks$Sorted", "source", "LPlainPacks$Source;", true), ("PlainPacks$Sorted", "sink", "LPlainPacks$Sink;", true), ("PlainPacks$Sorted", "writer", "LPlainPacks$Writer;", true), ("PlainPacks$Sorted", "turnings", "LPlainPacks$Turnings;", true), ("PlainPacks$Sorted", "tables", "[LPlainPacks$Codes;", true), ("PlainPacks$Sorted", "tableRow", "[I", true), ("PlainPacks$Sorted", "selectors", "[I", true), ("PlainPacks$Sorted", "selectorCount", "I", false), ("PlainPacks$Sorted", "row", "[I", true), ("PlainPacks$Sorted", "occur", "I", false), ("PlainPacks$Sorted", "origin", "I", false), ("PlainPacks$Sorted", "bytes", "[I", true), ("PlainPacks$Sorted", "size", "I", false), ("PlainPacks$Sorted", "steps", "[I", true), ("PlainPacks$Sorted", "counts", "[I", true), ("PlainPacks$Sorted", "letterCount", "I", false), ("PlainPacks$Sorted", "run", "I", false)]
def mm_f11 : List (String × String × String × Bool) := [("PlainPacks$Chances", "source", "LPlainPacks$Source;", true), ("PlainPacks$Chances", "sink", "LPlainPacks$Sink;", true), ("PlainPacks$Chances", "writer", "LPlainPacks$Writer;", true), ("PlainPacks$Chances", "contexts", "[I", true), ("PlainPacks$Chances", "range", "J", false), ("PlainPacks$Chances", "v", "J", false), ("PlainPacks$Chances", "lc", "I", false), ("PlainPacks$Chances", "lp", "I", false), ("PlainPacks$Chances", "pb", "I", false), ("PlainPacks$Chances", "state", "I", false), ("PlainPacks$Chances", "r0", "I", false), ("PlainPacks$Chances", "r1", "I", false), ("PlainPacks$Chances", "r2", "I", false), ("PlainPacks$Chances", "r3", "I", false), ("PlainPacks$Chances", "n", "J", false), ("PlainPacks$Chances", "low", "J", false)]
def mm_f12 : List (String × String × String × Bool) := [("PlainPacksModel", "code", "I", false), ("PlainPacksModel", "tape", "[I", true), ("PlainPacksModel", "taped", "I", false), ("PlainPacksModel", "out", "[I", true), ("PlainPacksModel", "size", "I", false), ("PlainPacksModel", "at", "I", false), ("PlainPacksModel", "stop", "I", false), ("PlainPacksModel", "wrong", "Z", false), ("PlainPacksModel", "plain", "I", false), ("PlainPacksModel", "copies", "I", false), ("PlainPacksModel", "longest", "I", false), ("PlainPacksModel", "farthest", "I", false), ("PlainPacksModel", "blocks", "I", false), ("PlainPacksModel", "highest", "Z", false), ("PlainPacksModel", "hold", "I", false), ("PlainPacksModel", "held", "I", false), ("PlainPacksModel", "lengths", "[I", true), ("PlainPacksModel", "codes", "[I", true), ("PlainPacksModel", "order", "[I", true), ("PlainPacksModel", "row", "[I", true), ("PlainPacksModel", "letters", "I", false), ("PlainPacksModel", "distances", "I", false), ("PlainPacksModel", "wordAt", "[I", true), ("PlainPacksModel", "wordSize", "[I", true), ("PlainPacksModel", "selectors", "[I", true), ("PlainPacksModel", "front", "[I", true), ("PlainPacksModel", "last", "[I", true), ("PlainPacksModel", "places", "[I", true), ("PlainPacksModel", "texts", "I", false), ("PlainPacksModel", "tables", "I", false), ("PlainPacksModel", "told", "I", false), ("PlainPacksModel", "tableRow", "[I", true), ("PlainPacksModel", "chances", "[I", true), ("PlainPacksModel", "range", "J", false), ("PlainPacksModel", "value", "J", false), ("PlainPacksModel", "state", "I", false), ("PlainPacksModel", "latest", "[J", true), ("PlainPacksModel", "lc", "I", false), ("PlainPacksModel", "lp", "I", false), ("PlainPacksModel", "pb", "I", false), ("PlainPacksModel", "made", "[I", true), ("PlainPacksModel", "many", "I", false), ("PlainPacksModel", "writeHold", "I", false), ("PlainPacksModel", "writeHeld", "I", false), ("PlainPacksModel", "best", "I", false), ("PlainPacksModel", "bestDistance", "I", false), ("PlainPacksModel", "headBytes", "[I", true), ("PlainPacksModel", "text", "[I", true), ("PlainPacksModel", "rank", "[I", true), ("PlainPacksModel", "newRank", "[I", true), ("PlainPacksModel", "turnings", "[I", true), ("PlainPacksModel", "merged", "[I", true), ("PlainPacksModel", "lettersMade", "I", false), ("PlainPacksModel", "lowest", "J", false), ("PlainPacksModel", "digits", "I", false), ("PlainPacksModel", "bitsFrom", "[I", true), ("PlainPacksModel", "weight", "[I", true), ("PlainPacksModel", "over", "[I", true)]
def mm_fl : List (List (String × String × String × Bool)) := [mm_f0, mm_f1, mm_f2, mm_f3, mm_f4, mm_f5, mm_f6, mm_f7, mm_f8, mm_f9, mm_f10, mm_f11, mm_f12]
def mm_T (c : Nat) : u_T := fun k => ((mm_nth mm_fl c).bind (fun l => mm_nth l k)).getD ("", "", "", false)
def mm_N (c : Nat) : Nat := ((mm_nth mm_fl c).getD []).length
def mm_cl : List vw_C := [(mm_cn 0, mm_T 0, mm_N 0), (mm_cn 1, mm_T 1, mm_N 1), (mm_cn 2, mm_T 2, mm_N 2), (mm_cn 3, mm_T 3, mm_N 3), (mm_cn 4, mm_T 4, mm_N 4), (mm_cn 5, mm_T 5, mm_N 5), (mm_cn 6, mm_T 6, mm_N 6), (mm_cn 7, mm_T 7, mm_N 7), (mm_cn 8, mm_T 8, mm_N 8), (mm_cn 9, mm_T 9, mm_N 9), (mm_cn 10, mm_T 10, mm_N 10), (mm_cn 11, mm_T 11, mm_N 11), (mm_cn 12, mm_T 12, mm_N 12)]
/-- a field: a reference to a place that never changes, or of a type -/
abbrev mm_Fd : Type := Nat ⊕ FieldType
/-- a cell: an object (its class, its fields), or an array (0: ints, 1: longs, 2: the tables of codes; its length) -/
abbrev mm_Sh : Type := (Nat × List mm_Fd) ⊕ (Nat × Nat)
def mm_s0 : mm_Sh := .inl (0, [.inl 1, .inl 3, .inl 5, .inl 7, .inl 16, .inl 35, .inl 41, .inl 42, .inl 80, .inl 82, .inl 83])
def mm_s1 : mm_Sh := .inl (1, [.inl 2, .inr .int, .inr .int, .inr .int, .inr .boolean, .inr .int, .inr .int])
def mm_s3 : mm_Sh := .inl (2, [.inl 4, .inr .int, .inr .int, .inr .int, .inr .int, .inr .int, .inr .int])
def mm_s5 : mm_Sh := .inl (3, [.inl 6, .inr .int, .inr .boolean, .inr .boolean, .inr .int, .inr .int])
def mm_s7 : mm_Sh := .inl (4, [.inl 8, .inl 9, .inl 10, .inl 11, .inl 12, .inr .int, .inr .int])
def mm_s13 : mm_Sh := .inl (5, [.inr .int, .inr .int, .inl 14, .inl 15, .inl 2, .inl 1, .inr .int, .inr .int])
def mm_s16 : mm_Sh := .inl (6, [.inl 1, .inl 3, .inl 5, .inl 13, .inl 17, .inl 22, .inl 27, .inl 32, .inr .int, .inr .int, .inl 33, .inl 34])
def mm_s17 : mm_Sh := .inl (7, [.inl 18, .inl 19, .inl 20, .inl 21, .inr .int, .inr .int])
def mm_s22 : mm_Sh := .inl (7, [.inl 23, .inl 24, .inl 25, .inl 26, .inr .int, .inr .int])
def mm_s27 : mm_Sh := .inl (7, [.inl 28, .inl 29, .inl 30, .inl 31, .inr .int, .inr .int])
def mm_s35 : mm_Sh := .inl (8, [.inl 1, .inl 3, .inl 5, .inl 36, .inl 37, .inl 38, .inl 39, .inl 40, .inr .int, .inr .int, .inr .int, .inr .int, .inr .boolean, .inr .int, .inr .int])
def mm_s41 : mm_Sh := .inl (9, [.inl 1, .inl 3, .inl 5, .inl 13, .inr .int, .inr .long])
def mm_s42 : mm_Sh := .inl (10, [.inl 1, .inl 3, .inl 5, .inl 7, .inl 43, .inl 44, .inl 45, .inr .int, .inl 46, .inr .int, .inr .int, .inl 47, .inr .int, .inl 48, .inl 49, .inr .int, .inr .int])
def mm_s50 : mm_Sh := .inl (7, [.inl 51, .inl 52, .inl 53, .inl 54, .inr .int, .inr .int])
def mm_s55 : mm_Sh := .inl (7, [.inl 56, .inl 57, .inl 58, .inl 59, .inr .int, .inr .int])
def mm_s60 : mm_Sh := .inl (7, [.inl 61, .inl 62, .inl 63, .inl 64, .inr .int, .inr .int])
def mm_s65 : mm_Sh := .inl (7, [.inl 66, .inl 67, .inl 68, .inl 69, .inr .int, .inr .int])
def mm_s70 : mm_Sh := .inl (7, [.inl 71, .inl 72, .inl 73, .inl 74, .inr .int, .inr .int])
def mm_s75 : mm_Sh := .inl (7, [.inl 76, .inl 77, .inl 78, .inl 79, .inr .int, .inr .int])
def mm_s80 : mm_Sh := .inl (11, [.inl 1, .inl 3, .inl 5, .inl 81, .inr .long, .inr .long, .inr .int, .inr .int, .inr .int, .inr .int, .inr .int, .inr .int, .inr .int, .inr .int, .inr .long, .inr .long])
def mm_s84 : mm_Sh := .inl (12, [.inr .int, .inl 85, .inr .int, .inl 86, .inr .int, .inr .int, .inr .int, .inr .boolean, .inr .int, .inr .int, .inr .int, .inr .int, .inr .int, .inr .boolean, .inr .int, .inr .int, .inl 87, .inl 88, .inl 89, .inl 90, .inr .int, .inr .int, .inl 91, .inl 92, .inl 93, .inl 94, .inl 95, .inl 96, .inr .int, .inr .int, .inr .int, .inl 97, .inl 98, .inr .long, .inr .long, .inr .int, .inl 99, .inr .int, .inr .int, .inr .int, .inl 100, .inr .int, .inr .int, .inr .int, .inr .int, .inr .int, .inl 101, .inl 102, .inl 103, .inl 104, .inl 105, .inl 106, .inr .int, .inr .long, .inr .int, .inl 107, .inl 108, .inl 109])
def mm_sh : List mm_Sh := [mm_s0, mm_s1, .inr (0, 10000), mm_s3, .inr (0, 16384), mm_s5, .inr (0, 16384), mm_s7, .inr (0, 12500), .inr (0, 12500), .inr (0, 12500), .inr (0, 12500), .inr (0, 12501), mm_s13, .inr (0, 4096), .inr (0, 10000), mm_s16, mm_s17, .inr (0, 288), .inr (0, 288), .inr (0, 21), .inr (0, 21), mm_s22, .inr (0, 32), .inr (0, 32), .inr (0, 21), .inr (0, 21), mm_s27, .inr (0, 19), .inr (0, 19), .inr (0, 21), .inr (0, 21), .inr (0, 320), .inr (0, 301), .inr (0, 301), mm_s35, .inr (0, 4096), .inr (0, 4096), .inr (0, 4096), .inr (0, 4096), .inr (0, 4096), mm_s41, mm_s42, .inr (2, 6), .inr (0, 6), .inr (0, 1601), .inr (0, 256), .inr (0, 16384), .inr (0, 16384), .inr (0, 257), mm_s50, .inr (0, 258), .inr (0, 258), .inr (0, 21), .inr (0, 21), mm_s55, .inr (0, 258), .inr (0, 258), .inr (0, 21), .inr (0, 21), mm_s60, .inr (0, 258), .inr (0, 258), .inr (0, 21), .inr (0, 21), mm_s65, .inr (0, 258), .inr (0, 258), .inr (0, 21), .inr (0, 21), mm_s70, .inr (0, 258), .inr (0, 258), .inr (0, 21), .inr (0, 21), mm_s75, .inr (0, 258), .inr (0, 258), .inr (0, 21), .inr (0, 21), mm_s80, .inr (0, 14340), .inr (0, 511), .inr (0, 511), mm_s84, .inr (0, 10000), .inr (0, 16384), .inr (0, 2100), .inr (0, 2100), .inr (0, 19), .inr (0, 640), .inr (0, 4096), .inr (0, 4096), .inr (0, 32768), .inr (0, 256), .inr (0, 16384), .inr (0, 16384), .inr (0, 6), .inr (0, 14540), .inr (1, 4), .inr (0, 16384), .inr (0, 2), .inr (0, 12600), .inr (0, 12600), .inr (0, 12600), .inr (0, 12600), .inr (0, 12600), .inr (0, 301), .inr (0, 512), .inr (0, 512), .inr (1, 1)]
/-- the place of table i -/
def mm_tab (i : Nat) : Nat := 50 + 5 * i
-- places by name: x 0, src 1, src.bytes 2, sink 3, sink.bytes 4, wr 5, wr.bytes 6, tu 7, tu.order 8, tu.rank 9, tu.spareOrder 10, tu.spareRank 11, tu.counts 12, fi 13, fi.heads 14, fi.before 15, bl 16, bl.letters 17, bl.letters.lengths 18, bl.letters.letters 19, bl.letters.counts 20, bl.letters.starts 21, bl.distances 22, bl.distances.lengths 23, bl.distances.letters 24, bl.distances.counts 25, bl.distances.starts 26, bl.rowCodes 27, bl.rowCodes.lengths 28, bl.rowCodes.letters 29, bl.rowCodes.counts 30, bl.rowCodes.starts 31, bl.row 32, bl.costs 33, bl.reach 34, wo 35, wo.places 36, wo.sizes 37, wo.longer 38, wo.beside 39, wo.lastByte 40, pi 41, so 42, so.tables 43, so.tableRow 44, so.selectors 45, so.row 46, so.bytes 47, so.steps 48, so.counts 49, so.t0 50, so.t0.lengths 51, so.t0.letters 52, so.t0.counts 53, so.t0.starts 54, so.t1 55, so.t1.lengths 56, so.t1.letters 57, so.t1.counts 58, so.t1.starts 59, so.t2 60, so.t2.lengths 61, so.t2.letters 62, so.t2.counts 63, so.t2.starts 64, so.t3 65, so.t3.lengths 66, so.t3.letters 67, so.t3.counts 68, so.t3.starts 69, so.t4 70, so.t4.lengths 71, so.t4.letters 72, so.t4.counts 73, so.t4.starts 74, so.t5 75, so.t5.lengths 76, so.t5.letters 77, so.t5.counts 78, so.t5.starts 79, ch 80, ch.contexts 81, x.weights 82, x.joins 83, mo 84, mo.tape 85, mo.out 86, mo.lengths 87, mo.codes 88, mo.order 89, mo.row 90, mo.wordAt 91, mo.wordSize 92, mo.selectors 93, mo.front 94, mo.last 95, mo.places 96, mo.tableRow 97, mo.chances 98, mo.latest 99, mo.made 100, mo.headBytes 101, mo.text 102, mo.rank 103, mo.newRank 104, mo.turnings 105, mo.merged 106, mo.bitsFrom 107, mo.weight 108, mo.over 109, law.out 110
def mm_nP : Nat := 111
/-- the memory: ints and longs by place and field (or index); how many throws there were -/
abbrev mm_M : Type := (Nat → Nat → Int32) × (Nat → Nat → Int64) × Nat
def mm_pi (M : mm_M) (p k : Nat) (v : Int32) : mm_M := (fun q j => if q = p then (if j = k then v else M.1 q j) else M.1 q j, M.2.1, M.2.2)
def mm_pl (M : mm_M) (p k : Nat) (v : Int64) : mm_M := (M.1, fun q j => if q = p then (if j = k then v else M.2.1 q j) else M.2.1 q j, M.2.2)
def mm_fv (ad : Nat → Nat) (M : mm_M) (p k : Nat) : mm_Fd → Value
  | .inl q => .ref (ad q)
  | .inr .long => .long (M.2.1 p k)
  | .inr _ => .int (M.1 p k)
/-- the fields' values from field k on -/
def mm_fvs (ad : Nat → Nat) (M : mm_M) (p : Nat) : Nat → List mm_Fd → List Value
  | _, [] => []
  | k, f :: r => mm_fv ad M p k f :: mm_fvs ad M p (k + 1) r
abbrev mm_C : Type := ClassId × ClassId × ClassId
def mm_el (cs : mm_C) (ad : Nat → Nat) (M : mm_M) (p : Nat) : mm_Sh → va_E
  | .inl (ci, fs) => .inr (ci, mm_fvs ad M p 0 fs)
  | .inr (0, n) => .inl (cs.1, n, .inl (M.1 p))
  | .inr (1, n) => .inl (cs.2.1, n, .inr (.inl (M.2.1 p)))
  | .inr (_, n) => .inl (cs.2.2, n, .inr (.inr (.inr (.inr (fun i => some (ad (mm_tab i)))))))
/-- the cells from place p on -/
def mm_wsF (cs : mm_C) (ad : Nat → Nat) (M : mm_M) : Nat → List mm_Sh → va_W
  | _, [] => []
  | p, s :: r => (ad p, mm_el cs ad M p s) :: mm_wsF cs ad M (p + 1) r
def mm_ws (cs : mm_C) (ad : Nat → Nat) (M : mm_M) : va_W := mm_wsF cs ad M 0 mm_sh
theorem mm_wsF_at (cs : mm_C) (ad : Nat → Nat) (M : mm_M) : ∀ (l : List mm_Sh) (p k : Nat), (mm_wsF cs ad M p l)[k]? = (mm_nth l k).map (fun s => (ad (p + k), mm_el cs ad M (p + k) s))
  | [], p, k => by simp [mm_wsF, mm_nth]
  | s :: l, p, 0 => by simp [mm_wsF, mm_nth]
  | s :: l, p, k + 1 => by simp [mm_wsF, mm_nth, mm_wsF_at cs ad M l (p + 1) k, Nat.add_assoc, Nat.add_comm 1 k]
theorem mm_ws_at (cs : mm_C) (ad : Nat → Nat) (M : mm_M) (k : Nat) : (mm_ws cs ad M)[k]? = (mm_nth mm_sh k).map (fun s => (ad k, mm_el cs ad M k s)) := by
  have h := mm_wsF_at cs ad M mm_sh 0 k
  unfold mm_ws
  simpa using h
theorem mm_fvs_at (ad : Nat → Nat) (M : mm_M) (p : Nat) : ∀ (l : List mm_Fd) (k j : Nat), (mm_fvs ad M p k l)[j]? = (mm_nth l j).map (fun f => mm_fv ad M p (k + j) f)
  | [], k, j => by simp [mm_fvs, mm_nth]
  | f :: l, k, 0 => by simp [mm_fvs, mm_nth]
  | f :: l, k, j + 1 => by simp [mm_fvs, mm_nth, mm_fvs_at ad M p l (k + 1) j, Nat.add_assoc, Nat.add_comm 1 j]
theorem mm_fvs_len (ad : Nat → Nat) (M : mm_M) (p : Nat) : ∀ (l : List mm_Fd) (k : Nat), (mm_fvs ad M p k l).length = l.length
  | [], k => rfl
  | f :: l, k => by simp [mm_fvs, mm_fvs_len ad M p l (k + 1)]
/-- a field is written -/
theorem mm_fvs_set (ad : Nat → Nat) (M M2 : mm_M) (p : Nat) (v : Value) (k : Nat) : ∀ (l : List mm_Fd) (b j : Nat), b + j = k → (∀ f, mm_nth l j = some f → mm_fv ad M2 p k f = v) → (∀ i f, i ≠ k → mm_fv ad M2 p i f = mm_fv ad M p i f) → (mm_fvs ad M p b l).set j v = mm_fvs ad M2 p b l
  | [], b, j, hk, h1, h2 => by simp [mm_fvs]
  | f :: l, b, 0, hk, h1, h2 => by
    have hb : b = k := by omega
    have h3 : mm_fvs ad M p (b + 1) l = mm_fvs ad M2 p (b + 1) l := by
      refine List.ext_getElem? (fun i => ?_)
      rw [mm_fvs_at, mm_fvs_at]
      congr 1
      funext g
      exact (h2 (b + 1 + i) g (by omega)).symm
    simp only [mm_fvs, List.set_cons_zero, h3, List.cons.injEq, and_true]
    rw [hb]; exact (h1 f rfl).symm
  | f :: l, b, j + 1, hk, h1, h2 => by
    simp only [mm_fvs, List.set_cons_succ, h2 b f (by omega), List.cons.injEq, true_and]
    exact mm_fvs_set ad M M2 p v k l (b + 1) j (by omega) (fun g hg => h1 g hg) h2
/-- a cell is written -/
theorem mm_wsF_set (cs : mm_C) (ad : Nat → Nat) (M M2 : mm_M) (q : Nat) (x : Nat × va_E) : ∀ (l : List mm_Sh) (b j : Nat), b + j = q → (∀ s, mm_nth l j = some s → (ad q, mm_el cs ad M2 q s) = x) → (∀ i s, i ≠ q → mm_el cs ad M2 i s = mm_el cs ad M i s) → (mm_wsF cs ad M b l).set j x = mm_wsF cs ad M2 b l
  | [], b, j, hk, h1, h2 => by simp [mm_wsF]
  | f :: l, b, 0, hk, h1, h2 => by
    have hb : b = q := by omega
    have h3 : mm_wsF cs ad M (b + 1) l = mm_wsF cs ad M2 (b + 1) l := by
      refine List.ext_getElem? (fun i => ?_)
      rw [mm_wsF_at, mm_wsF_at]
      congr 1
      funext g
      rw [h2 (b + 1 + i) g (by omega)]
    simp only [mm_wsF, List.set_cons_zero, h3, List.cons.injEq, and_true]
    rw [hb]; exact (h1 f rfl).symm
  | f :: l, b, j + 1, hk, h1, h2 => by
    simp only [mm_wsF, List.set_cons_succ, h2 b f (by omega), List.cons.injEq, true_and]
    exact mm_wsF_set cs ad M M2 q x l (b + 1) j (by omega) (fun g hg => h1 g hg) h2
theorem mm_el_ne (cs : mm_C) (ad : Nat → Nat) {M M2 : mm_M} {p : Nat} (h1 : ∀ j, M2.1 p j = M.1 p j) (h2 : ∀ j, M2.2.1 p j = M.2.1 p j) (s : mm_Sh) : mm_el cs ad M2 p s = mm_el cs ad M p s := by
  have e1 : M2.1 p = M.1 p := funext h1
  have e2 : M2.2.1 p = M.2.1 p := funext h2
  match s with
  | .inl (ci, fs) =>
    simp only [mm_el]
    congr 2
    refine List.ext_getElem? (fun i => ?_)
    rw [mm_fvs_at, mm_fvs_at]
    congr 1
    funext g
    match g with
    | .inl q => rfl
    | .inr t => cases t <;> simp [mm_fv, h1, h2]
  | .inr (0, n) => simp only [mm_el, e1]
  | .inr (1, n) => simp only [mm_el, e2]
  | .inr (n + 2, _) => rfl
theorem mm_pi_ne (M : mm_M) {p k q : Nat} {v : Int32} (h : q ≠ p) (j : Nat) : (mm_pi M p k v).1 q j = M.1 q j := by simp [mm_pi, h]
theorem mm_pl_ne (M : mm_M) {p k q : Nat} {v : Int64} (h : q ≠ p) (j : Nat) : (mm_pl M p k v).2.1 q j = M.2.1 q j := by simp [mm_pl, h]
/-- an int array is written -/
theorem mm_ws_ia {cs : mm_C} {ad : Nat → Nat} {M : mm_M} {p n k : Nat} {v : Int32} (h : mm_nth mm_sh p = some (.inr (0, n))) : (mm_ws cs ad M).set p (ad p, .inl (cs.1, n, .inl (upd (M.1 p) k v))) = mm_ws cs ad (mm_pi M p k v) := by
  refine mm_wsF_set cs ad M (mm_pi M p k v) p _ mm_sh 0 p (by omega) (fun s hs => ?_) (fun i s hi => mm_el_ne cs ad (fun j => mm_pi_ne M hi j) (fun j => rfl) s)
  rw [h] at hs
  cases hs
  have e : (mm_pi M p k v).1 p = upd (M.1 p) k v := by funext j; simp [mm_pi, upd]
  simp only [mm_el, e]
theorem mm_ws_la {cs : mm_C} {ad : Nat → Nat} {M : mm_M} {p n k : Nat} {v : Int64} (h : mm_nth mm_sh p = some (.inr (1, n))) : (mm_ws cs ad M).set p (ad p, .inl (cs.2.1, n, .inr (.inl (vp_updL (M.2.1 p) k v)))) = mm_ws cs ad (mm_pl M p k v) := by
  refine mm_wsF_set cs ad M (mm_pl M p k v) p _ mm_sh 0 p (by omega) (fun s hs => ?_) (fun i s hi => mm_el_ne (M := M) (M2 := mm_pl M p k v) (p := i) cs ad (fun j => rfl) (fun j => mm_pl_ne M hi j) s)
  rw [h] at hs
  cases hs
  have e : (mm_pl M p k v).2.1 p = vp_updL (M.2.1 p) k v := by funext j; simp [mm_pl, vp_updL]
  simp only [mm_el, e]
theorem mm_ws_fi {cs : mm_C} {ad : Nat → Nat} {M : mm_M} {p ci k : Nat} {fs : List mm_Fd} {t : FieldType} {v : Int32} (h : mm_nth mm_sh p = some (.inl (ci, fs))) (hf : mm_nth fs k = some (.inr t)) (ht : t ≠ .long) : (mm_ws cs ad M).set p (ad p, .inr (ci, (mm_fvs ad M p 0 fs).set k (.int v))) = mm_ws cs ad (mm_pi M p k v) := by
  refine mm_wsF_set cs ad M (mm_pi M p k v) p _ mm_sh 0 p (by omega) (fun s hs => ?_) (fun i s hi => mm_el_ne cs ad (fun j => mm_pi_ne M hi j) (fun j => rfl) s)
  rw [h] at hs
  cases hs
  simp only [mm_el]
  congr 3
  refine (mm_fvs_set ad M (mm_pi M p k v) p (.int v) k fs 0 k (by omega) (fun f h2 => ?_) (fun i f hi => ?_)).symm
  · rw [hf] at h2; cases h2
    cases t <;> first | (exact absurd rfl ht) | simp [mm_fv, mm_pi]
  · match f with
    | .inl q => rfl
    | .inr t => cases t <;> simp [mm_fv, mm_pi, hi]
theorem mm_ws_fl {cs : mm_C} {ad : Nat → Nat} {M : mm_M} {p ci k : Nat} {fs : List mm_Fd} {v : Int64} (h : mm_nth mm_sh p = some (.inl (ci, fs))) (hf : mm_nth fs k = some (.inr .long)) : (mm_ws cs ad M).set p (ad p, .inr (ci, (mm_fvs ad M p 0 fs).set k (.long v))) = mm_ws cs ad (mm_pl M p k v) := by
  refine mm_wsF_set cs ad M (mm_pl M p k v) p _ mm_sh 0 p (by omega) (fun s hs => ?_) (fun i s hi => mm_el_ne (M := M) (M2 := mm_pl M p k v) (p := i) cs ad (fun j => rfl) (fun j => mm_pl_ne M hi j) s)
  rw [h] at hs
  cases hs
  simp only [mm_el]
  congr 3
  refine (mm_fvs_set ad M (mm_pl M p k v) p (.long v) k fs 0 k (by omega) (fun f h2 => ?_) (fun i f hi => ?_)).symm
  · rw [hf] at h2; cases h2
    simp [mm_fv, mm_pl]
  · match f with
    | .inl q => rfl
    | .inr t => cases t <;> simp [mm_fv, mm_pl, hi]
