theorem mm_tb1 {w : Cond} {j : Nat} (h : tables_1_1[j]? = some w) (hk : mm_wk w = true := by rfl) : w ∈ mm_tbl := mm_tbF (List.mem_append_right _ (show w ∈ tables_1 from by unfold tables_1; have h := List.mem_of_getElem? h; exact List.mem_append_left _ h)) hk
theorem mm_tb2 {w : Cond} {j : Nat} (h : tables_1_2[j]? = some w) (hk : mm_wk w = true := by rfl) : w ∈ mm_tbl := mm_tbF (List.mem_append_right _ (show w ∈ tables_1 from by unfold tables_1; have h := List.mem_of_getElem? h; exact List.mem_append_right _ (List.mem_append_left _ h))) hk
theorem mm_tb3 {w : Cond} {j : Nat} (h : tables_1_3[j]? = some w) (hk : mm_wk w = true := by rfl) : w ∈ mm_tbl := mm_tbF (List.mem_append_right _ (show w ∈ tables_1 from by unfold tables_1; have h := List.mem_of_getElem? h; exact List.mem_append_right _ (List.mem_append_right _ (List.mem_append_left _ h)))) hk
theorem mm_tb4 {w : Cond} {j : Nat} (h : tables_1_4[j]? = some w) (hk : mm_wk w = true := by rfl) : w ∈ mm_tbl := mm_tbF (List.mem_append_right _ (show w ∈ tables_1 from by unfold tables_1; have h := List.mem_of_getElem? h; exact List.mem_append_right _ (List.mem_append_right _ (List.mem_append_right _ (List.mem_append_left _ h))))) hk
theorem mm_tb5 {w : Cond} {j : Nat} (h : tables_1_5[j]? = some w) (hk : mm_wk w = true := by rfl) : w ∈ mm_tbl := mm_tbF (List.mem_append_right _ (show w ∈ tables_1 from by unfold tables_1; have h := List.mem_of_getElem? h; exact List.mem_append_right _ (List.mem_append_right _ (List.mem_append_right _ (List.mem_append_right _ (List.mem_append_left _ h)))))) hk
theorem mm_tb6 {w : Cond} {j : Nat} (h : tables_1_6[j]? = some w) (hk : mm_wk w = true := by rfl) : w ∈ mm_tbl := mm_tbF (List.mem_append_right _ (show w ∈ tables_1 from by unfold tables_1; have h := List.mem_of_getElem? h; exact List.mem_append_right _ (List.mem_append_right _ (List.mem_append_right _ (List.mem_append_right _ (List.mem_append_right _ (List.mem_append_left _ h))))))) hk
theorem mm_tb7 {w : Cond} {j : Nat} (h : tables_1_7[j]? = some w) (hk : mm_wk w = true := by rfl) : w ∈ mm_tbl := mm_tbF (List.mem_append_right _ (show w ∈ tables_1 from by unfold tables_1; have h := List.mem_of_getElem? h; exact List.mem_append_right _ (List.mem_append_right _ (List.mem_append_right _ (List.mem_append_right _ (List.mem_append_right _ (List.mem_append_right _ (List.mem_append_left _ h)))))))) hk
theorem mm_tb8 {w : Cond} {j : Nat} (h : tables_1_8[j]? = some w) (hk : mm_wk w = true := by rfl) : w ∈ mm_tbl := mm_tbF (List.mem_append_right _ (show w ∈ tables_1 from by unfold tables_1; have h := List.mem_of_getElem? h; exact List.mem_append_right _ (List.mem_append_right _ (List.mem_append_right _ (List.mem_append_right _ (List.mem_append_right _ (List.mem_append_right _ (List.mem_append_right _ (List.mem_append_left _ h))))))))) hk
theorem mm_tb9 {w : Cond} {j : Nat} (h : tables_1_9[j]? = some w) (hk : mm_wk w = true := by rfl) : w ∈ mm_tbl := mm_tbF (List.mem_append_right _ (show w ∈ tables_1 from by unfold tables_1; have h := List.mem_of_getElem? h; exact List.mem_append_right _ (List.mem_append_right _ (List.mem_append_right _ (List.mem_append_right _ (List.mem_append_right _ (List.mem_append_right _ (List.mem_append_right _ (List.mem_append_right _ (h)))))))))) hk
/-! THE METHODS: name, code, locals, what they answer, parameters, static or not; the tables say so -/
abbrev mm_Mt : Type := Nat × MethodName × ByteArray × Nat × Option FieldType × Nat × Bool
def mm_mt : List mm_Mt := [(13, ⟨"PlainPacksLaw", "feed", "(LPlainPacks;IIIII[J)I"⟩, method_3_code, 8, (some .int), 7, true),
  (13, ⟨"PlainPacksLaw", "end", "(LPlainPacks;I)I"⟩, method_4_code, 3, (some .int), 2, true),
  (13, ⟨"PlainPacksLaw", "alter", "(LPlainPacks;II[J)I"⟩, method_5_code, 5, (some .int), 4, true),
  (13, ⟨"PlainPacksLaw", "turn", "(LPlainPacks;[J)I"⟩, method_6_code, 3, (some .int), 2, true),
  (13, ⟨"PlainPacksLaw", "open", "(LPlainPacks;I[J)I"⟩, method_7_code, 4, (some .int), 3, true),
  (13, ⟨"PlainPacksLaw", "told", "(LPlainPacks;I[J)I"⟩, method_8_code, 4, (some .int), 3, true),
  (13, ⟨"PlainPacksLaw", "out", "(LPlainPacks;I[J)I"⟩, method_9_code, 4, (some .int), 3, true),
  (13, ⟨"PlainPacksLaw", "pack", "(LPlainPacks;I[J)I"⟩, method_10_code, 4, (some .int), 3, true),
  (13, ⟨"PlainPacksLaw", "sum", "(LPlainPacks;I[J)I"⟩, method_11_code, 4, (some .int), 3, true),
  (13, ⟨"PlainPacksLaw", "length", "(LPlainPacks;I[J)I"⟩, method_12_code, 4, (some .int), 3, true),
  (13, ⟨"PlainPacksLaw", "turning", "(LPlainPacks;I[J)I"⟩, method_13_code, 4, (some .int), 3, true),
  (13, ⟨"PlainPacksLaw", "count", "(LPlainPacks;I[J)I"⟩, method_14_code, 4, (some .int), 3, true),
  (13, ⟨"PlainPacksLaw", "law", "([I)Z"⟩, code, 7, (some .boolean), 1, true),
  (0, ⟨"PlainPacks", "feed", "(IIIII)I"⟩, prog_1_method_2_code, 6, (some .int), 5, false),
  (0, ⟨"PlainPacks", "end", "(I)V"⟩, prog_1_method_3_code, 2, none, 1, false),
  (0, ⟨"PlainPacks", "alter", "(II)I"⟩, prog_1_method_4_code, 4, (some .int), 2, false),
  (0, ⟨"PlainPacks", "turn", "()I"⟩, prog_1_method_5_code, 1, (some .int), 0, false),
  (0, ⟨"PlainPacks", "open", "(I)I"⟩, prog_1_method_6_code, 3, (some .int), 1, false),
  (0, ⟨"PlainPacks", "told", "(I)I"⟩, prog_1_method_7_code, 2, (some .int), 1, false),
  (0, ⟨"PlainPacks", "out", "(I)I"⟩, prog_1_method_8_code, 2, (some .int), 1, false),
  (0, ⟨"PlainPacks", "pack", "(I)I"⟩, prog_1_method_9_code, 2, (some .int), 1, false),
  (0, ⟨"PlainPacks", "sum", "(I)I"⟩, prog_1_method_10_code, 2, (some .int), 1, false),
  (0, ⟨"PlainPacks", "least", "()I"⟩, prog_1_method_11_code, 1, (some .int), 0, false),
  (0, ⟨"PlainPacks", "length", "(I)I"⟩, prog_1_method_12_code, 3, (some .int), 1, false),
  (0, ⟨"PlainPacks", "turning", "(I)I"⟩, prog_1_method_13_code, 2, (some .int), 1, false),
  (0, ⟨"PlainPacks", "count", "(I)I"⟩, prog_1_method_14_code, 2, (some .int), 1, false),
  (0, ⟨"PlainPacks", "needForm", "(I)V"⟩, prog_1_method_15_code, 1, none, 1, true),
  (0, ⟨"PlainPacks", "wrongIf", "(Z)V"⟩, prog_1_method_16_code, 1, none, 1, true),
  (0, ⟨"PlainPacks", "crcOf", "([III)I"⟩, prog_1_method_17_code, 6, (some .int), 3, true),
  (0, ⟨"PlainPacks", "crcHighOf", "([III)I"⟩, prog_1_method_18_code, 6, (some .int), 3, true),
  (0, ⟨"PlainPacks", "adlerOf", "([III)I"⟩, prog_1_method_19_code, 6, (some .int), 3, true),
  (0, ⟨"PlainPacks", "xxOf", "([III)I"⟩, prog_1_method_20_code, 9, (some .int), 3, true),
  (0, ⟨"PlainPacks", "turnedLeft", "(II)I"⟩, prog_1_method_21_code, 2, (some .int), 2, true),
  (0, ⟨"PlainPacks", "lowWord", "([II)I"⟩, prog_1_method_22_code, 2, (some .int), 2, true),
  (0, ⟨"PlainPacks", "topBit", "(I)I"⟩, prog_1_method_23_code, 3, (some .int), 1, true),
  (0, ⟨"PlainPacks", "weigh", "()I"⟩, prog_1_method_24_code, 3, (some .int), 0, false),
  (0, ⟨"PlainPacks", "joinAll", "(I)V"⟩, prog_1_method_25_code, 6, none, 1, false),
  (0, ⟨"PlainPacks", "lightest", "(II)I"⟩, prog_1_method_26_code, 6, (some .int), 2, false),
  (0, ⟨"PlainPacks", "depthOf", "(I)I"⟩, prog_1_method_27_code, 5, (some .int), 1, false),
  (1, ⟨"PlainPacks$Source", "add", "(I)V"⟩, prog_9_method_2_code, 3, none, 1, false),
  (1, ⟨"PlainPacks$Source", "start", "()V"⟩, prog_9_method_3_code, 1, none, 0, false),
  (1, ⟨"PlainPacks$Source", "closeBehind", "(I)V"⟩, prog_9_method_4_code, 2, none, 1, false),
  (1, ⟨"PlainPacks$Source", "reopen", "()V"⟩, prog_9_method_5_code, 1, none, 0, false),
  (1, ⟨"PlainPacks$Source", "atEdge", "()Z"⟩, prog_9_method_6_code, 1, (some .boolean), 0, false),
  (1, ⟨"PlainPacks$Source", "next", "()I"⟩, prog_9_method_7_code, 2, (some .int), 0, false),
  (1, ⟨"PlainPacks$Source", "bit", "()I"⟩, prog_9_method_8_code, 1, (some .int), 0, false),
  (1, ⟨"PlainPacks$Source", "bits", "(I)J"⟩, prog_9_method_9_code, 7, (some .long), 1, false),
  (1, ⟨"PlainPacks$Source", "low", "(I)J"⟩, prog_9_method_10_code, 5, (some .long), 1, false),
  (1, ⟨"PlainPacks$Source", "high", "(I)J"⟩, prog_9_method_11_code, 5, (some .long), 1, false),
  (2, ⟨"PlainPacks$Sink", "start", "()V"⟩, prog_7_method_2_code, 1, none, 0, false),
  (2, ⟨"PlainPacks$Sink", "become", "([II)V"⟩, prog_7_method_3_code, 3, none, 2, false),
  (2, ⟨"PlainPacks$Sink", "put", "(I)V"⟩, prog_7_method_4_code, 2, none, 1, false),
  (2, ⟨"PlainPacks$Sink", "putPlain", "(I)V"⟩, prog_7_method_5_code, 2, none, 1, false),
  (2, ⟨"PlainPacks$Sink", "copy", "(IJ)V"⟩, prog_7_method_6_code, 5, none, 2, false),
  (2, ⟨"PlainPacks$Sink", "repeat", "(II)V"⟩, prog_7_method_7_code, 4, none, 2, false),
  (3, ⟨"PlainPacks$Writer", "start", "()V"⟩, prog_12_method_2_code, 1, none, 0, false),
  (3, ⟨"PlainPacks$Writer", "back", "(I)V"⟩, prog_12_method_3_code, 2, none, 1, false),
  (3, ⟨"PlainPacks$Writer", "put", "(I)V"⟩, prog_12_method_4_code, 2, none, 1, false),
  (3, ⟨"PlainPacks$Writer", "putAll", "([III)V"⟩, prog_12_method_5_code, 5, none, 3, false),
  (3, ⟨"PlainPacks$Writer", "low", "(JI)V"⟩, prog_12_method_6_code, 5, none, 2, false),
  (3, ⟨"PlainPacks$Writer", "high", "(JI)V"⟩, prog_12_method_7_code, 5, none, 2, false),
  (3, ⟨"PlainPacks$Writer", "bit", "(I)V"⟩, prog_12_method_8_code, 2, none, 1, false),
  (3, ⟨"PlainPacks$Writer", "bits", "(JI)V"⟩, prog_12_method_9_code, 5, none, 2, false),
  (3, ⟨"PlainPacks$Writer", "code", "(II)V"⟩, prog_12_method_10_code, 4, none, 2, false),
  (3, ⟨"PlainPacks$Writer", "closeByte", "()V"⟩, prog_12_method_11_code, 1, none, 0, false),
  (3, ⟨"PlainPacks$Writer", "carry", "()V"⟩, prog_12_method_12_code, 3, none, 0, false),
  (4, ⟨"PlainPacks$Turnings", "sort", "([II)V"⟩, prog_10_method_2_code, 6, none, 2, false),
  (4, ⟨"PlainPacks$Turnings", "orderByRank", "(I)V"⟩, prog_10_method_3_code, 4, none, 1, false),
  (4, ⟨"PlainPacks$Turnings", "rankAgain", "(I)V"⟩, prog_10_method_4_code, 3, none, 1, false),
  (4, ⟨"PlainPacks$Turnings", "differ", "(III)Z"⟩, prog_10_method_5_code, 6, (some .boolean), 3, false),
  (5, ⟨"PlainPacks$Finder", "start", "()V"⟩, prog_5_method_2_code, 1, none, 0, false),
  (5, ⟨"PlainPacks$Finder", "find", "(II)V"⟩, prog_5_method_3_code, 7, none, 2, false),
  (5, ⟨"PlainPacks$Finder", "enterTo", "(I)V"⟩, prog_5_method_4_code, 3, none, 1, false),
  (5, ⟨"PlainPacks$Finder", "headOf", "(I)I"⟩, prog_5_method_5_code, 2, (some .int), 1, false),
  (5, ⟨"PlainPacks$Finder", "alike", "(III)I"⟩, prog_5_method_6_code, 5, (some .int), 3, false),
  (6, ⟨"PlainPacks$Blocks", "readWrapped", "()V"⟩, prog_2_method_2_code, 3, none, 0, false),
  (6, ⟨"PlainPacks$Blocks", "readFile", "()V"⟩, prog_2_method_3_code, 3, none, 0, false),
  (6, ⟨"PlainPacks$Blocks", "passBytes", "(I)V"⟩, prog_2_method_4_code, 3, none, 1, false),
  (6, ⟨"PlainPacks$Blocks", "passText", "()V"⟩, prog_2_method_5_code, 3, none, 0, false),
  (6, ⟨"PlainPacks$Blocks", "readBlocks", "(I)V"⟩, prog_2_method_6_code, 5, none, 1, false),
  (6, ⟨"PlainPacks$Blocks", "readPlain", "()V"⟩, prog_2_method_7_code, 3, none, 0, false),
  (6, ⟨"PlainPacks$Blocks", "setKnownCodes", "()V"⟩, prog_2_method_8_code, 2, none, 0, false),
  (6, ⟨"PlainPacks$Blocks", "knownLength", "(I)I"⟩, prog_2_method_9_code, 1, (some .int), 1, true),
  (6, ⟨"PlainPacks$Blocks", "readRowCodes", "()V"⟩, prog_2_method_10_code, 3, none, 0, false),
  (6, ⟨"PlainPacks$Blocks", "readRow", "()V"⟩, prog_2_method_11_code, 7, none, 0, false),
  (6, ⟨"PlainPacks$Blocks", "setRowCodes", "()V"⟩, prog_2_method_12_code, 1, none, 0, false),
  (6, ⟨"PlainPacks$Blocks", "readLetters", "(I)V"⟩, prog_2_method_13_code, 6, none, 1, false),
  (6, ⟨"PlainPacks$Blocks", "readLength", "(I)I"⟩, prog_2_method_14_code, 3, (some .int), 1, false),
  (6, ⟨"PlainPacks$Blocks", "readDistance", "()I"⟩, prog_2_method_15_code, 3, (some .int), 0, false),
  (6, ⟨"PlainPacks$Blocks", "writeWrapped", "()V"⟩, prog_2_method_16_code, 1, none, 0, false),
  (6, ⟨"PlainPacks$Blocks", "writeFile", "()V"⟩, prog_2_method_17_code, 1, none, 0, false),
  (6, ⟨"PlainPacks$Blocks", "writeBlock", "()V"⟩, prog_2_method_18_code, 2, none, 0, false),
  (6, ⟨"PlainPacks$Blocks", "writeLetter", "(I)V"⟩, prog_2_method_19_code, 2, none, 1, false),
  (6, ⟨"PlainPacks$Blocks", "writeDistance", "(I)V"⟩, prog_2_method_20_code, 4, none, 1, false),
  (6, ⟨"PlainPacks$Blocks", "letterOf", "(I)I"⟩, prog_2_method_21_code, 3, (some .int), 1, true),
  (6, ⟨"PlainPacks$Blocks", "lengthExtra", "(I)I"⟩, prog_2_method_22_code, 2, (some .int), 1, true),
  (6, ⟨"PlainPacks$Blocks", "distanceExtra", "(I)I"⟩, prog_2_method_23_code, 2, (some .int), 1, true),
  (6, ⟨"PlainPacks$Blocks", "leastBits", "()I"⟩, prog_2_method_24_code, 8, (some .int), 0, false),
  (6, ⟨"PlainPacks$Blocks", "copyBits", "(II)I"⟩, prog_2_method_25_code, 2, (some .int), 2, true),
  (7, ⟨"PlainPacks$Codes", "make", "(I)V"⟩, prog_4_method_2_code, 5, none, 1, false),
  (7, ⟨"PlainPacks$Codes", "isOver", "()Z"⟩, prog_4_method_3_code, 1, (some .boolean), 0, false),
  (7, ⟨"PlainPacks$Codes", "isEmpty", "()Z"⟩, prog_4_method_4_code, 1, (some .boolean), 0, false),
  (7, ⟨"PlainPacks$Codes", "isFullOrOne", "()Z"⟩, prog_4_method_5_code, 1, (some .boolean), 0, false),
  (7, ⟨"PlainPacks$Codes", "take", "(LPlainPacks$Source;)I"⟩, prog_4_method_6_code, 7, (some .int), 1, false),
  (8, ⟨"PlainPacks$Words", "begin", "(II)V"⟩, prog_11_method_2_code, 3, none, 2, false),
  (8, ⟨"PlainPacks$Words", "forget", "()V"⟩, prog_11_method_3_code, 1, none, 0, false),
  (8, ⟨"PlainPacks$Words", "widen", "()V"⟩, prog_11_method_4_code, 1, none, 0, false),
  (8, ⟨"PlainPacks$Words", "readLow", "()V"⟩, prog_11_method_5_code, 2, none, 0, false),
  (8, ⟨"PlainPacks$Words", "readHigh", "()V"⟩, prog_11_method_6_code, 1, none, 0, false),
  (8, ⟨"PlainPacks$Words", "readCodes", "()V"⟩, prog_11_method_7_code, 3, none, 0, false),
  (8, ⟨"PlainPacks$Words", "tellWord", "()V"⟩, prog_11_method_8_code, 1, none, 0, false),
  (8, ⟨"PlainPacks$Words", "putWord", "(I)V"⟩, prog_11_method_9_code, 3, none, 1, false),
  (8, ⟨"PlainPacks$Words", "writeLow", "()V"⟩, prog_11_method_10_code, 1, none, 0, false),
  (8, ⟨"PlainPacks$Words", "writeHigh", "()V"⟩, prog_11_method_11_code, 1, none, 0, false),
  (8, ⟨"PlainPacks$Words", "writeCodes", "()V"⟩, prog_11_method_12_code, 4, none, 0, false),
  (8, ⟨"PlainPacks$Words", "longerWord", "(II)I"⟩, prog_11_method_13_code, 5, (some .int), 2, false),
  (8, ⟨"PlainPacks$Words", "addWord", "(II)V"⟩, prog_11_method_14_code, 3, none, 2, false),
  (9, ⟨"PlainPacks$Pieces", "readRuns", "()V"⟩, prog_6_method_2_code, 5, none, 0, false),
  (9, ⟨"PlainPacks$Pieces", "readPieces", "(I)V"⟩, prog_6_method_3_code, 5, none, 1, false),
  (9, ⟨"PlainPacks$Pieces", "readMore", "(I)I"⟩, prog_6_method_4_code, 6, (some .int), 1, false),
  (9, ⟨"PlainPacks$Pieces", "putPlain", "(J)V"⟩, prog_6_method_5_code, 5, none, 1, false),
  (9, ⟨"PlainPacks$Pieces", "readFrame", "()V"⟩, prog_6_method_6_code, 7, none, 0, false),
  (9, ⟨"PlainPacks$Pieces", "readFrameHead", "()J"⟩, prog_6_method_7_code, 7, (some .long), 0, false),
  (9, ⟨"PlainPacks$Pieces", "readFrameBlock", "(J)V"⟩, prog_6_method_8_code, 8, none, 1, false),
  (9, ⟨"PlainPacks$Pieces", "readTags", "()V"⟩, prog_6_method_9_code, 8, none, 0, false),
  (9, ⟨"PlainPacks$Pieces", "readTagCount", "()J"⟩, prog_6_method_10_code, 6, (some .long), 0, false),
  (9, ⟨"PlainPacks$Pieces", "readTagDistance", "(I)J"⟩, prog_6_method_11_code, 2, (some .long), 1, false),
  (9, ⟨"PlainPacks$Pieces", "writeRuns", "()V"⟩, prog_6_method_12_code, 4, none, 0, false),
  (9, ⟨"PlainPacks$Pieces", "runAt", "(II)I"⟩, prog_6_method_13_code, 4, (some .int), 2, false),
  (9, ⟨"PlainPacks$Pieces", "writePieces", "()V"⟩, prog_6_method_14_code, 4, none, 0, false),
  (9, ⟨"PlainPacks$Pieces", "writePiece", "(III)V"⟩, prog_6_method_15_code, 4, none, 3, false),
  (9, ⟨"PlainPacks$Pieces", "writePlainPart", "(III)V"⟩, prog_6_method_16_code, 4, none, 3, false),
  (9, ⟨"PlainPacks$Pieces", "writeMore", "(I)V"⟩, prog_6_method_17_code, 3, none, 1, false),
  (9, ⟨"PlainPacks$Pieces", "writeFrame", "()V"⟩, prog_6_method_18_code, 1, none, 0, false),
  (9, ⟨"PlainPacks$Pieces", "writeFrameBlock", "()V"⟩, prog_6_method_19_code, 5, none, 0, false),
  (9, ⟨"PlainPacks$Pieces", "writeTags", "()V"⟩, prog_6_method_20_code, 5, none, 0, false),
  (9, ⟨"PlainPacks$Pieces", "writePlainTag", "(II)V"⟩, prog_6_method_21_code, 4, none, 2, false),
  (10, ⟨"PlainPacks$Sorted", "readSorted", "()V"⟩, prog_8_method_2_code, 8, none, 0, false),
  (10, ⟨"PlainPacks$Sorted", "readBlock", "()V"⟩, prog_8_method_3_code, 3, none, 0, false),
  (10, ⟨"PlainPacks$Sorted", "readOccurring", "()V"⟩, prog_8_method_4_code, 5, none, 0, false),
  (10, ⟨"PlainPacks$Sorted", "readSelectors", "(I)V"⟩, prog_8_method_5_code, 4, none, 1, false),
  (10, ⟨"PlainPacks$Sorted", "moveToFront", "([II)V"⟩, prog_8_method_6_code, 4, none, 2, true),
  (10, ⟨"PlainPacks$Sorted", "readTable", "(LPlainPacks$Codes;)V"⟩, prog_8_method_7_code, 5, none, 1, false),
  (10, ⟨"PlainPacks$Sorted", "readLetters", "()V"⟩, prog_8_method_8_code, 7, none, 0, false),
  (10, ⟨"PlainPacks$Sorted", "addBytes", "(IJ)V"⟩, prog_8_method_9_code, 5, none, 2, false),
  (10, ⟨"PlainPacks$Sorted", "sortSteps", "()V"⟩, prog_8_method_10_code, 3, none, 0, false),
  (10, ⟨"PlainPacks$Sorted", "putText", "()V"⟩, prog_8_method_11_code, 7, none, 0, false),
  (10, ⟨"PlainPacks$Sorted", "writeSorted", "()V"⟩, prog_8_method_12_code, 2, none, 0, false),
  (10, ⟨"PlainPacks$Sorted", "makeText", "()V"⟩, prog_8_method_13_code, 4, none, 0, false),
  (10, ⟨"PlainPacks$Sorted", "addText", "(II)V"⟩, prog_8_method_14_code, 4, none, 2, false),
  (10, ⟨"PlainPacks$Sorted", "makeLetters", "()V"⟩, prog_8_method_15_code, 5, none, 0, false),
  (10, ⟨"PlainPacks$Sorted", "listOccurring", "()V"⟩, prog_8_method_16_code, 2, none, 0, false),
  (10, ⟨"PlainPacks$Sorted", "placeInRow", "(I)I"⟩, prog_8_method_17_code, 3, (some .int), 1, false),
  (10, ⟨"PlainPacks$Sorted", "addLetter", "(I)V"⟩, prog_8_method_18_code, 2, none, 1, false),
  (10, ⟨"PlainPacks$Sorted", "closeRun", "()V"⟩, prog_8_method_19_code, 2, none, 0, false),
  (10, ⟨"PlainPacks$Sorted", "writeBlock", "(I)V"⟩, prog_8_method_20_code, 6, none, 1, false),
  (10, ⟨"PlainPacks$Sorted", "writeOccurring", "()V"⟩, prog_8_method_21_code, 3, none, 0, false),
  (10, ⟨"PlainPacks$Sorted", "anyOfSixteen", "(I)Z"⟩, prog_8_method_22_code, 4, (some .boolean), 1, false),
  (11, ⟨"PlainPacks$Chances", "begin", "()V"⟩, prog_3_method_2_code, 1, none, 0, false),
  (11, ⟨"PlainPacks$Chances", "readChances", "()V"⟩, prog_3_method_3_code, 4, none, 0, false),
  (11, ⟨"PlainPacks$Chances", "readHead", "()V"⟩, prog_3_method_4_code, 2, none, 0, false),
  (11, ⟨"PlainPacks$Chances", "bit", "(I)I"⟩, prog_3_method_5_code, 6, (some .int), 1, false),
  (11, ⟨"PlainPacks$Chances", "plainBit", "()I"⟩, prog_3_method_6_code, 2, (some .int), 0, false),
  (11, ⟨"PlainPacks$Chances", "tree", "(II)I"⟩, prog_3_method_7_code, 5, (some .int), 2, false),
  (11, ⟨"PlainPacks$Chances", "turnedTree", "(II)I"⟩, prog_3_method_8_code, 7, (some .int), 2, false),
  (11, ⟨"PlainPacks$Chances", "readByte", "()V"⟩, prog_3_method_9_code, 11, none, 0, false),
  (11, ⟨"PlainPacks$Chances", "readMatch", "(I)Z"⟩, prog_3_method_10_code, 5, (some .boolean), 1, false),
  (11, ⟨"PlainPacks$Chances", "readRepeat", "(I)V"⟩, prog_3_method_11_code, 4, none, 1, false),
  (11, ⟨"PlainPacks$Chances", "bringToFront", "()V"⟩, prog_3_method_12_code, 2, none, 0, false),
  (11, ⟨"PlainPacks$Chances", "readLength", "(II)I"⟩, prog_3_method_13_code, 4, (some .int), 2, false),
  (11, ⟨"PlainPacks$Chances", "readDistance", "(I)J"⟩, prog_3_method_14_code, 7, (some .long), 1, false),
  (11, ⟨"PlainPacks$Chances", "writeChances", "()V"⟩, prog_3_method_15_code, 7, none, 0, false),
  (11, ⟨"PlainPacks$Chances", "writeBit", "(II)V"⟩, prog_3_method_16_code, 6, none, 2, false),
  (12, ⟨"PlainPacksModel", "thrown", "()I"⟩, prog_14_method_2_code, 1, (some .int), 0, false),
  (12, ⟨"PlainPacksModel", "good", "(Z)Z"⟩, prog_14_method_3_code, 2, (some .boolean), 1, false),
  (12, ⟨"PlainPacksModel", "feed", "(IIIII)I"⟩, prog_14_method_4_code, 8, (some .int), 5, false),
  (12, ⟨"PlainPacksModel", "end", "(I)V"⟩, prog_14_method_5_code, 2, none, 1, false),
  (12, ⟨"PlainPacksModel", "alter", "(II)I"⟩, prog_14_method_6_code, 4, (some .int), 2, false),
  (12, ⟨"PlainPacksModel", "turn", "()I"⟩, prog_14_method_7_code, 2, (some .int), 0, false),
  (12, ⟨"PlainPacksModel", "count", "(I)I"⟩, prog_14_method_8_code, 2, (some .int), 1, false),
  (12, ⟨"PlainPacksModel", "out", "(I)I"⟩, prog_14_method_9_code, 2, (some .int), 1, false),
  (12, ⟨"PlainPacksModel", "told", "(I)I"⟩, prog_14_method_10_code, 2, (some .int), 1, false),
  (12, ⟨"PlainPacksModel", "crc", "([III)I"⟩, prog_14_method_11_code, 6, (some .int), 3, true),
  (12, ⟨"PlainPacksModel", "crcHigh", "([III)I"⟩, prog_14_method_12_code, 6, (some .int), 3, true),
  (12, ⟨"PlainPacksModel", "adler", "([III)I"⟩, prog_14_method_13_code, 6, (some .int), 3, true),
  (12, ⟨"PlainPacksModel", "left", "(II)I"⟩, prog_14_method_14_code, 2, (some .int), 2, true),
  (12, ⟨"PlainPacksModel", "word", "([II)I"⟩, prog_14_method_15_code, 2, (some .int), 2, true),
  (12, ⟨"PlainPacksModel", "lane", "(II)I"⟩, prog_14_method_16_code, 2, (some .int), 2, true),
  (12, ⟨"PlainPacksModel", "xx", "([III)I"⟩, prog_14_method_17_code, 10, (some .int), 3, true),
  (12, ⟨"PlainPacksModel", "sum", "(I)I"⟩, prog_14_method_18_code, 2, (some .int), 1, false),
  (12, ⟨"PlainPacksModel", "bad", "()V"⟩, prog_14_method_19_code, 1, none, 0, false),
  (12, ⟨"PlainPacksModel", "next", "()I"⟩, prog_14_method_20_code, 1, (some .int), 0, false),
  (12, ⟨"PlainPacksModel", "want", "(I)V"⟩, prog_14_method_21_code, 3, none, 1, false),
  (12, ⟨"PlainPacksModel", "low", "(I)J"⟩, prog_14_method_22_code, 5, (some .long), 1, false),
  (12, ⟨"PlainPacksModel", "put", "(I)Z"⟩, prog_14_method_23_code, 2, (some .boolean), 1, false),
  (12, ⟨"PlainPacksModel", "pass", "(J)V"⟩, prog_14_method_24_code, 6, none, 1, false),
  (12, ⟨"PlainPacksModel", "copy", "(IJI)V"⟩, prog_14_method_25_code, 7, none, 3, false),
  (12, ⟨"PlainPacksModel", "bit", "()I"⟩, prog_14_method_26_code, 1, (some .int), 0, false),
  (12, ⟨"PlainPacksModel", "number", "(I)J"⟩, prog_14_method_27_code, 7, (some .long), 1, false),
  (12, ⟨"PlainPacksModel", "assign", "(II)V"⟩, prog_14_method_28_code, 6, none, 2, false),
  (12, ⟨"PlainPacksModel", "taken", "(II)J"⟩, prog_14_method_29_code, 6, (some .long), 2, false),
  (12, ⟨"PlainPacksModel", "isFit", "(IIZ)Z"⟩, prog_14_method_30_code, 7, (some .boolean), 3, false),
  (12, ⟨"PlainPacksModel", "decode", "(II)I"⟩, prog_14_method_31_code, 8, (some .int), 2, false),
  (12, ⟨"PlainPacksModel", "blocksTo", "(I)V"⟩, prog_14_method_32_code, 4, none, 1, false),
  (12, ⟨"PlainPacksModel", "stored", "()V"⟩, prog_14_method_33_code, 3, none, 0, false),
  (12, ⟨"PlainPacksModel", "fixed", "()V"⟩, prog_14_method_34_code, 2, none, 0, false),
  (12, ⟨"PlainPacksModel", "dynamic", "()V"⟩, prog_14_method_35_code, 3, none, 0, false),
  (12, ⟨"PlainPacksModel", "rowOf", "(I)V"⟩, prog_14_method_36_code, 7, none, 1, false),
  (12, ⟨"PlainPacksModel", "lettersTo", "(I)V"⟩, prog_14_method_37_code, 6, none, 1, false),
  (12, ⟨"PlainPacksModel", "distanceTo", "(II)V"⟩, prog_14_method_38_code, 6, none, 2, false),
  (12, ⟨"PlainPacksModel", "wrapped", "()V"⟩, prog_14_method_39_code, 5, none, 0, false),
  (12, ⟨"PlainPacksModel", "toZero", "()V"⟩, prog_14_method_40_code, 2, none, 0, false),
  (12, ⟨"PlainPacksModel", "file", "()V"⟩, prog_14_method_41_code, 4, none, 0, false),
  (12, ⟨"PlainPacksModel", "sumIs", "(I)V"⟩, prog_14_method_42_code, 3, none, 1, false),
  (12, ⟨"PlainPacksModel", "runs", "()V"⟩, prog_14_method_43_code, 4, none, 0, false),
  (12, ⟨"PlainPacksModel", "words", "(IZ)V"⟩, prog_14_method_44_code, 11, none, 2, false),
  (12, ⟨"PlainPacksModel", "wordsLow", "()V"⟩, prog_14_method_45_code, 2, none, 0, false),
  (12, ⟨"PlainPacksModel", "grown", "(I)I"⟩, prog_14_method_46_code, 4, (some .int), 1, false),
  (12, ⟨"PlainPacksModel", "pieces", "(II)V"⟩, prog_14_method_47_code, 9, none, 2, false),
  (12, ⟨"PlainPacksModel", "frame", "()V"⟩, prog_14_method_48_code, 11, none, 0, false),
  (12, ⟨"PlainPacksModel", "block", "(JJI)V"⟩, prog_14_method_49_code, 10, none, 3, false),
  (12, ⟨"PlainPacksModel", "tags", "()V"⟩, prog_14_method_50_code, 6, none, 0, false),
  (12, ⟨"PlainPacksModel", "tag", "(IJ)V"⟩, prog_14_method_51_code, 10, none, 2, false),
  (12, ⟨"PlainPacksModel", "sorted", "()V"⟩, prog_14_method_52_code, 7, none, 0, false),
  (12, ⟨"PlainPacksModel", "sortedBlock", "()I"⟩, prog_14_method_53_code, 5, (some .int), 0, false),
  (12, ⟨"PlainPacksModel", "occurring", "()V"⟩, prog_14_method_54_code, 5, none, 0, false),
  (12, ⟨"PlainPacksModel", "readSelectors", "()V"⟩, prog_14_method_55_code, 5, none, 0, false),
  (12, ⟨"PlainPacksModel", "readTable", "(II)V"⟩, prog_14_method_56_code, 5, none, 2, false),
  (12, ⟨"PlainPacksModel", "readLetters", "(I)V"⟩, prog_14_method_57_code, 9, none, 1, false),
  (12, ⟨"PlainPacksModel", "fill", "(J)V"⟩, prog_14_method_58_code, 5, none, 1, false),
  (12, ⟨"PlainPacksModel", "toFront", "(I)V"⟩, prog_14_method_59_code, 4, none, 1, false),
  (12, ⟨"PlainPacksModel", "walk", "(I)V"⟩, prog_14_method_60_code, 9, none, 1, false),
  (12, ⟨"PlainPacksModel", "grow", "()V"⟩, prog_14_method_61_code, 1, none, 0, false),
  (12, ⟨"PlainPacksModel", "chance", "(I)I"⟩, prog_14_method_62_code, 5, (some .int), 1, false),
  (12, ⟨"PlainPacksModel", "tree", "(II)I"⟩, prog_14_method_63_code, 5, (some .int), 2, false),
  (12, ⟨"PlainPacksModel", "turnedTree", "(II)J"⟩, prog_14_method_64_code, 8, (some .long), 2, false),
  (12, ⟨"PlainPacksModel", "plainBits", "(I)J"⟩, prog_14_method_65_code, 6, (some .long), 1, false),
  (12, ⟨"PlainPacksModel", "chancesTold", "()V"⟩, prog_14_method_66_code, 5, none, 0, false),
  (12, ⟨"PlainPacksModel", "place", "(J)Z"⟩, prog_14_method_67_code, 9, (some .boolean), 1, false),
  (12, ⟨"PlainPacksModel", "isThere", "(I)V"⟩, prog_14_method_68_code, 2, none, 1, false),
  (12, ⟨"PlainPacksModel", "isRoom", "(IJ)V"⟩, prog_14_method_69_code, 4, none, 2, false),
  (12, ⟨"PlainPacksModel", "byByte", "()V"⟩, prog_14_method_70_code, 9, none, 0, false),
  (12, ⟨"PlainPacksModel", "lengthOf", "(II)I"⟩, prog_14_method_71_code, 3, (some .int), 2, false),
  (12, ⟨"PlainPacksModel", "distanceOf", "(I)J"⟩, prog_14_method_72_code, 7, (some .long), 1, false),
  (12, ⟨"PlainPacksModel", "open", "(I)I"⟩, prog_14_method_73_code, 2, (some .int), 1, false),
  (12, ⟨"PlainPacksModel", "write", "(I)V"⟩, prog_14_method_74_code, 2, none, 1, false),
  (12, ⟨"PlainPacksModel", "writeLow", "(JI)V"⟩, prog_14_method_75_code, 5, none, 2, false),
  (12, ⟨"PlainPacksModel", "writeBit", "(I)V"⟩, prog_14_method_76_code, 2, none, 1, false),
  (12, ⟨"PlainPacksModel", "writeRest", "()V"⟩, prog_14_method_77_code, 1, none, 0, false),
  (12, ⟨"PlainPacksModel", "writeBits", "(JIZ)V"⟩, prog_14_method_78_code, 6, none, 3, false),
  (12, ⟨"PlainPacksModel", "look", "(IIII)V"⟩, prog_14_method_79_code, 8, none, 4, false),
  (12, ⟨"PlainPacksModel", "alikeAt", "(II)I"⟩, prog_14_method_80_code, 4, (some .int), 2, false),
  (12, ⟨"PlainPacksModel", "packRuns", "()V"⟩, prog_14_method_81_code, 4, none, 0, false),
  (12, ⟨"PlainPacksModel", "writeLetter", "(I)V"⟩, prog_14_method_82_code, 2, none, 1, false),
  (12, ⟨"PlainPacksModel", "letterOf", "(I)I"⟩, prog_14_method_83_code, 2, (some .int), 1, true),
  (12, ⟨"PlainPacksModel", "leastLength", "(I)I"⟩, prog_14_method_84_code, 1, (some .int), 1, true),
  (12, ⟨"PlainPacksModel", "leastDistance", "(I)I"⟩, prog_14_method_85_code, 1, (some .int), 1, true),
  (12, ⟨"PlainPacksModel", "distanceLetter", "(I)I"⟩, prog_14_method_86_code, 2, (some .int), 1, true),
  (12, ⟨"PlainPacksModel", "moreBits", "(I)I"⟩, prog_14_method_87_code, 1, (some .int), 1, true),
  (12, ⟨"PlainPacksModel", "moreFar", "(I)I"⟩, prog_14_method_88_code, 1, (some .int), 1, true),
  (12, ⟨"PlainPacksModel", "packBlock", "()V"⟩, prog_14_method_89_code, 4, none, 0, false),
  (12, ⟨"PlainPacksModel", "packWords", "(IZ)V"⟩, prog_14_method_90_code, 12, none, 2, false),
  (12, ⟨"PlainPacksModel", "stands", "(III)Z"⟩, prog_14_method_91_code, 6, (some .boolean), 3, false),
  (12, ⟨"PlainPacksModel", "writeGrown", "(I)V"⟩, prog_14_method_92_code, 3, none, 1, false),
  (12, ⟨"PlainPacksModel", "writePiece", "(IIII)V"⟩, prog_14_method_93_code, 8, none, 4, false),
  (12, ⟨"PlainPacksModel", "packPieces", "()V"⟩, prog_14_method_94_code, 3, none, 0, false),
  (12, ⟨"PlainPacksModel", "packFrame", "()V"⟩, prog_14_method_95_code, 4, none, 0, false),
  (12, ⟨"PlainPacksModel", "writeTape", "(II)V"⟩, prog_14_method_96_code, 4, none, 2, false),
  (12, ⟨"PlainPacksModel", "writeTag", "(II)V"⟩, prog_14_method_97_code, 4, none, 2, false),
  (12, ⟨"PlainPacksModel", "packTags", "()V"⟩, prog_14_method_98_code, 4, none, 0, false),
  (12, ⟨"PlainPacksModel", "compare", "(IIII)I"⟩, prog_14_method_99_code, 6, (some .int), 4, false),
  (12, ⟨"PlainPacksModel", "sortBy", "(II)V"⟩, prog_14_method_100_code, 5, none, 2, false),
  (12, ⟨"PlainPacksModel", "mergeBy", "(IIIII)V"⟩, prog_14_method_101_code, 10, none, 5, false),
  (12, ⟨"PlainPacksModel", "turnAll", "(I)V"⟩, prog_14_method_102_code, 5, none, 1, false),
  (12, ⟨"PlainPacksModel", "turning", "(I)I"⟩, prog_14_method_103_code, 3, (some .int), 1, false),
  (12, ⟨"PlainPacksModel", "counted", "()I"⟩, prog_14_method_104_code, 5, (some .int), 0, false),
  (12, ⟨"PlainPacksModel", "packSorted", "()V"⟩, prog_14_method_105_code, 4, none, 0, false),
  (12, ⟨"PlainPacksModel", "writeOccurring", "(I)V"⟩, prog_14_method_106_code, 5, none, 1, false),
  (12, ⟨"PlainPacksModel", "letter", "(I)V"⟩, prog_14_method_107_code, 2, none, 1, false),
  (12, ⟨"PlainPacksModel", "runLetters", "(I)V"⟩, prog_14_method_108_code, 3, none, 1, false),
  (12, ⟨"PlainPacksModel", "writeSorted", "(I)V"⟩, prog_14_method_109_code, 8, none, 1, false),
  (12, ⟨"PlainPacksModel", "carry", "()V"⟩, prog_14_method_110_code, 2, none, 0, false),
  (12, ⟨"PlainPacksModel", "tell", "(II)V"⟩, prog_14_method_111_code, 5, none, 2, false),
  (12, ⟨"PlainPacksModel", "packChances", "()V"⟩, prog_14_method_112_code, 7, none, 0, false),
  (12, ⟨"PlainPacksModel", "pack", "(I)I"⟩, prog_14_method_113_code, 3, (some .int), 1, false),
  (12, ⟨"PlainPacksModel", "packBlocks", "(I)V"⟩, prog_14_method_114_code, 4, none, 1, false),
  (12, ⟨"PlainPacksModel", "lettersBits", "(I)I"⟩, prog_14_method_115_code, 1, (some .int), 1, true),
  (12, ⟨"PlainPacksModel", "least", "()I"⟩, prog_14_method_116_code, 8, (some .int), 0, false),
  (12, ⟨"PlainPacksModel", "lightest", "(I)I"⟩, prog_14_method_117_code, 4, (some .int), 1, false),
  (12, ⟨"PlainPacksModel", "length", "(I)I"⟩, prog_14_method_118_code, 6, (some .int), 1, false),
  (15, ⟨"java/util/Arrays", "fill", "([II)V"⟩, prog_25_method_103_code, 4, none, 2, true)]
def mm_cs : List (List (Nat × Instr × Nat)) := [mm_c0, mm_c1, mm_c2, mm_c3, mm_c4, mm_c5, mm_c6, mm_c7, mm_c8, mm_c9, mm_c10, mm_c11, mm_c12, mm_c13, mm_c14, mm_c15, mm_c16, mm_c17, mm_c18, mm_c19, mm_c20, mm_c21, mm_c22, mm_c23, mm_c24, mm_c25, mm_c26, mm_c27, mm_c28, mm_c29, mm_c30, mm_c31, mm_c32, mm_c33, mm_c34, mm_c35, mm_c36, mm_c37, mm_c38, mm_c39, mm_c40, mm_c41, mm_c42, mm_c43, mm_c44, mm_c45, mm_c46, mm_c47, mm_c48, mm_c49, mm_c50, mm_c51, mm_c52, mm_c53, mm_c54, mm_c55, mm_c56, mm_c57, mm_c58, mm_c59, mm_c60, mm_c61, mm_c62, mm_c63, mm_c64, mm_c65, mm_c66, mm_c67, mm_c68, mm_c69, mm_c70, mm_c71, mm_c72, mm_c73, mm_c74, mm_c75, mm_c76, mm_c77, mm_c78, mm_c79, mm_c80, mm_c81, mm_c82, mm_c83, mm_c84, mm_c85, mm_c86, mm_c87, mm_c88, mm_c89, mm_c90, mm_c91, mm_c92, mm_c93, mm_c94, mm_c95, mm_c96, mm_c97, mm_c98, mm_c99, mm_c100, mm_c101, mm_c102, mm_c103, mm_c104, mm_c105, mm_c106, mm_c107, mm_c108, mm_c109, mm_c110, mm_c111, mm_c112, mm_c113, mm_c114, mm_c115, mm_c116, mm_c117, mm_c118, mm_c119, mm_c120, mm_c121, mm_c122, mm_c123, mm_c124, mm_c125, mm_c126, mm_c127, mm_c128, mm_c129, mm_c130, mm_c131, mm_c132, mm_c133, mm_c134, mm_c135, mm_c136, mm_c137, mm_c138, mm_c139, mm_c140, mm_c141, mm_c142, mm_c143, mm_c144, mm_c145, mm_c146, mm_c147, mm_c148, mm_c149, mm_c150, mm_c151, mm_c152, mm_c153, mm_c154, mm_c155, mm_c156, mm_c157, mm_c158, mm_c159, mm_c160, mm_c161, mm_c162, mm_c163, mm_c164, mm_c165, mm_c166, mm_c167, mm_c168, mm_c169, mm_c170, mm_c171, mm_c172, mm_c173, mm_c174, mm_c175, mm_c176, mm_c177, mm_c178, mm_c179, mm_c180, mm_c181, mm_c182, mm_c183, mm_c184, mm_c185, mm_c186, mm_c187, mm_c188, mm_c189, mm_c190, mm_c191, mm_c192, mm_c193, mm_c194, mm_c195, mm_c196, mm_c197, mm_c198, mm_c199, mm_c200, mm_c201, mm_c202, mm_c203, mm_c204, mm_c205, mm_c206, mm_c207, mm_c208, mm_c209, mm_c210, mm_c211, mm_c212, mm_c213, mm_c214, mm_c215, mm_c216, mm_c217, mm_c218, mm_c219, mm_c220, mm_c221, mm_c222, mm_c223, mm_c224, mm_c225, mm_c226, mm_c227, mm_c228, mm_c229, mm_c230, mm_c231, mm_c232, mm_c233, mm_c234, mm_c235, mm_c236, mm_c237, mm_c238, mm_c239, mm_c240, mm_c241, mm_c242, mm_c243, mm_c244, mm_c245, mm_c246, mm_c247, mm_c248, mm_c249, mm_c250, mm_c251, mm_c252, mm_c253, mm_c254, mm_c255, mm_c256, mm_c257, mm_c258, mm_c259, mm_c260, mm_c261, mm_c262, mm_c263, mm_c264, mm_c265, mm_c266, mm_c267, mm_c268, mm_c269, mm_c270, mm_c271, mm_c272, mm_c273, mm_c274, mm_c275, mm_c276, mm_c277, mm_c278, mm_c279, mm_c280, mm_c281, mm_c282, mm_c283, mm_c284, mm_c285, mm_c286, mm_c287, mm_c288, mm_c289, mm_c290]
def mm_mD : mm_Mt := (0, ⟨"", "", ""⟩, ⟨#[]⟩, 0, none, 0, false)
def mm_m (k : Nat) : mm_Mt := (mm_nth mm_mt k).getD mm_mD
def mm_own (k : Nat) : Nat := (mm_m k).1
def mm_y (k : Nat) : MethodName := (mm_m k).2.1
def mm_b (k : Nat) : ByteArray := (mm_m k).2.2.1
def mm_ml (k : Nat) : Nat := (mm_m k).2.2.2.1
def mm_rt (k : Nat) : Option FieldType := (mm_m k).2.2.2.2.1
def mm_np (k : Nat) : Nat := (mm_m k).2.2.2.2.2.1
def mm_sta (k : Nat) : Bool := (mm_m k).2.2.2.2.2.2
def mm_cd (k : Nat) : List (Nat × Instr × Nat) := (mm_nth mm_cs k).getD []
def mm_hs (k : Nat) : List (Nat × Nat × Nat × Nat) := match k with
  | 0 => [(0, 16, 19, 13)]
  | 1 => [(0, 5, 8, 19)]
  | 2 => [(0, 10, 13, 25)]
  | 3 => [(0, 8, 11, 13)]
  | 4 => [(0, 9, 12, 19)]
  | 5 => [(0, 9, 12, 25)]
  | 6 => [(0, 9, 12, 25)]
  | 7 => [(0, 9, 12, 19)]
  | 8 => [(0, 9, 12, 19)]
  | 9 => [(0, 9, 12, 19)]
  | 10 => [(0, 9, 12, 25)]
  | 11 => [(0, 9, 12, 25)]
  | 17 => [(18, 182, 185, 169)]
  | _ => []
theorem mm_wc0 : Cond.codeWith ⟨"PlainPacksLaw", "feed", "(LPlainPacks;IIIII[J)I"⟩ method_3_code 8 (some .int) [(0, 16, 19, 13)] ∈ mm_tbl := mm_tb3 (j := 80) rfl
theorem mm_ws0 : tables_1[559]? = some (.static ⟨"PlainPacksLaw", "feed", "(LPlainPacks;IIIII[J)I"⟩) := by decide +kernel
theorem mm_wc1 : Cond.codeWith ⟨"PlainPacksLaw", "end", "(LPlainPacks;I)I"⟩ method_4_code 3 (some .int) [(0, 5, 8, 19)] ∈ mm_tbl := mm_tb3 (j := 161) rfl
theorem mm_ws1 : tables_1[640]? = some (.static ⟨"PlainPacksLaw", "end", "(LPlainPacks;I)I"⟩) := by decide +kernel
theorem mm_wc2 : Cond.codeWith ⟨"PlainPacksLaw", "alter", "(LPlainPacks;II[J)I"⟩ method_5_code 5 (some .int) [(0, 10, 13, 25)] ∈ mm_tbl := mm_tb3 (j := 185) rfl
theorem mm_ws2 : tables_1[664]? = some (.static ⟨"PlainPacksLaw", "alter", "(LPlainPacks;II[J)I"⟩) := by decide +kernel
theorem mm_wc3 : Cond.codeWith ⟨"PlainPacksLaw", "turn", "(LPlainPacks;[J)I"⟩ method_6_code 3 (some .int) [(0, 8, 11, 13)] ∈ mm_tbl := mm_tb3 (j := 209) rfl
theorem mm_ws3 : tables_1[688]? = some (.static ⟨"PlainPacksLaw", "turn", "(LPlainPacks;[J)I"⟩) := by decide +kernel
theorem mm_wc4 : Cond.codeWith ⟨"PlainPacksLaw", "open", "(LPlainPacks;I[J)I"⟩ method_7_code 4 (some .int) [(0, 9, 12, 19)] ∈ mm_tbl := mm_tb3 (j := 220) rfl
theorem mm_ws4 : tables_1[699]? = some (.static ⟨"PlainPacksLaw", "open", "(LPlainPacks;I[J)I"⟩) := by decide +kernel
theorem mm_wc5 : Cond.codeWith ⟨"PlainPacksLaw", "told", "(LPlainPacks;I[J)I"⟩ method_8_code 4 (some .int) [(0, 9, 12, 25)] ∈ mm_tbl := mm_tb5 (j := 162) rfl
theorem mm_ws5 : tables_1[1121]? = some (.static ⟨"PlainPacksLaw", "told", "(LPlainPacks;I[J)I"⟩) := by decide +kernel
theorem mm_wc6 : Cond.codeWith ⟨"PlainPacksLaw", "out", "(LPlainPacks;I[J)I"⟩ method_9_code 4 (some .int) [(0, 9, 12, 25)] ∈ mm_tbl := mm_tb5 (j := 170) rfl
theorem mm_ws6 : tables_1[1129]? = some (.static ⟨"PlainPacksLaw", "out", "(LPlainPacks;I[J)I"⟩) := by decide +kernel
theorem mm_wc7 : Cond.codeWith ⟨"PlainPacksLaw", "pack", "(LPlainPacks;I[J)I"⟩ method_10_code 4 (some .int) [(0, 9, 12, 19)] ∈ mm_tbl := mm_tb5 (j := 178) rfl
theorem mm_ws7 : tables_1[1137]? = some (.static ⟨"PlainPacksLaw", "pack", "(LPlainPacks;I[J)I"⟩) := by decide +kernel
theorem mm_wc8 : Cond.codeWith ⟨"PlainPacksLaw", "sum", "(LPlainPacks;I[J)I"⟩ method_11_code 4 (some .int) [(0, 9, 12, 19)] ∈ mm_tbl := mm_tb6 (j := 190) rfl
theorem mm_ws8 : tables_1[1389]? = some (.static ⟨"PlainPacksLaw", "sum", "(LPlainPacks;I[J)I"⟩) := by decide +kernel
theorem mm_wc9 : Cond.codeWith ⟨"PlainPacksLaw", "length", "(LPlainPacks;I[J)I"⟩ method_12_code 4 (some .int) [(0, 9, 12, 19)] ∈ mm_tbl := mm_tb6 (j := 202) rfl
theorem mm_ws9 : tables_1[1401]? = some (.static ⟨"PlainPacksLaw", "length", "(LPlainPacks;I[J)I"⟩) := by decide +kernel
theorem mm_wc10 : Cond.codeWith ⟨"PlainPacksLaw", "turning", "(LPlainPacks;I[J)I"⟩ method_13_code 4 (some .int) [(0, 9, 12, 25)] ∈ mm_tbl := mm_tb6 (j := 227) rfl
theorem mm_ws10 : tables_1[1426]? = some (.static ⟨"PlainPacksLaw", "turning", "(LPlainPacks;I[J)I"⟩) := by decide +kernel
theorem mm_wc11 : Cond.codeWith ⟨"PlainPacksLaw", "count", "(LPlainPacks;I[J)I"⟩ method_14_code 4 (some .int) [(0, 9, 12, 25)] ∈ mm_tbl := mm_tb6 (j := 236) rfl
theorem mm_ws11 : tables_1[1435]? = some (.static ⟨"PlainPacksLaw", "count", "(LPlainPacks;I[J)I"⟩) := by decide +kernel
theorem mm_wc13 : Cond.code ⟨"PlainPacks", "feed", "(IIIII)I"⟩ prog_1_method_2_code 6 (some .int) ∈ mm_tbl := mm_tb3 (j := 85) rfl
theorem mm_ws13 : tables_1[563]? = some (.instanceMethod ⟨"PlainPacks", "feed", "(IIIII)I"⟩) := by decide +kernel
theorem mm_we13 : Cond.selects "PlainPacks" ⟨"PlainPacks", "feed", "(IIIII)I"⟩ ⟨"PlainPacks", "feed", "(IIIII)I"⟩ ∈ mm_tbl := mm_tb (j := 564) (by decide +kernel)
theorem mm_wc14 : Cond.code ⟨"PlainPacks", "end", "(I)V"⟩ prog_1_method_3_code 2 none ∈ mm_tbl := mm_tb3 (j := 166) rfl
theorem mm_ws14 : tables_1[644]? = some (.instanceMethod ⟨"PlainPacks", "end", "(I)V"⟩) := by decide +kernel
theorem mm_we14 : Cond.selects "PlainPacks" ⟨"PlainPacks", "end", "(I)V"⟩ ⟨"PlainPacks", "end", "(I)V"⟩ ∈ mm_tbl := mm_tb (j := 645) (by decide +kernel)
theorem mm_wc15 : Cond.code ⟨"PlainPacks", "alter", "(II)I"⟩ prog_1_method_4_code 4 (some .int) ∈ mm_tbl := mm_tb3 (j := 190) rfl
theorem mm_ws15 : tables_1[668]? = some (.instanceMethod ⟨"PlainPacks", "alter", "(II)I"⟩) := by decide +kernel
theorem mm_we15 : Cond.selects "PlainPacks" ⟨"PlainPacks", "alter", "(II)I"⟩ ⟨"PlainPacks", "alter", "(II)I"⟩ ∈ mm_tbl := mm_tb (j := 669) (by decide +kernel)
theorem mm_wc16 : Cond.code ⟨"PlainPacks", "turn", "()I"⟩ prog_1_method_5_code 1 (some .int) ∈ mm_tbl := mm_tb3 (j := 213) rfl
theorem mm_ws16 : tables_1[691]? = some (.instanceMethod ⟨"PlainPacks", "turn", "()I"⟩) := by decide +kernel
theorem mm_we16 : Cond.selects "PlainPacks" ⟨"PlainPacks", "turn", "()I"⟩ ⟨"PlainPacks", "turn", "()I"⟩ ∈ mm_tbl := mm_tb (j := 692) (by decide +kernel)
theorem mm_wc17 : Cond.codeWith ⟨"PlainPacks", "open", "(I)I"⟩ prog_1_method_6_code 3 (some .int) [(18, 182, 185, 169)] ∈ mm_tbl := mm_tb3 (j := 224) rfl
theorem mm_ws17 : tables_1[702]? = some (.instanceMethod ⟨"PlainPacks", "open", "(I)I"⟩) := by decide +kernel
theorem mm_we17 : Cond.selects "PlainPacks" ⟨"PlainPacks", "open", "(I)I"⟩ ⟨"PlainPacks", "open", "(I)I"⟩ ∈ mm_tbl := mm_tb (j := 703) (by decide +kernel)
theorem mm_wc18 : Cond.code ⟨"PlainPacks", "told", "(I)I"⟩ prog_1_method_7_code 2 (some .int) ∈ mm_tbl := mm_tb5 (j := 166) rfl
theorem mm_ws18 : tables_1[1124]? = some (.instanceMethod ⟨"PlainPacks", "told", "(I)I"⟩) := by decide +kernel
theorem mm_we18 : Cond.selects "PlainPacks" ⟨"PlainPacks", "told", "(I)I"⟩ ⟨"PlainPacks", "told", "(I)I"⟩ ∈ mm_tbl := mm_tb (j := 1125) (by decide +kernel)
theorem mm_wc19 : Cond.code ⟨"PlainPacks", "out", "(I)I"⟩ prog_1_method_8_code 2 (some .int) ∈ mm_tbl := mm_tb5 (j := 174) rfl
theorem mm_ws19 : tables_1[1132]? = some (.instanceMethod ⟨"PlainPacks", "out", "(I)I"⟩) := by decide +kernel
theorem mm_we19 : Cond.selects "PlainPacks" ⟨"PlainPacks", "out", "(I)I"⟩ ⟨"PlainPacks", "out", "(I)I"⟩ ∈ mm_tbl := mm_tb (j := 1133) (by decide +kernel)
theorem mm_wc20 : Cond.code ⟨"PlainPacks", "pack", "(I)I"⟩ prog_1_method_9_code 2 (some .int) ∈ mm_tbl := mm_tb5 (j := 182) rfl
theorem mm_ws20 : tables_1[1140]? = some (.instanceMethod ⟨"PlainPacks", "pack", "(I)I"⟩) := by decide +kernel
theorem mm_we20 : Cond.selects "PlainPacks" ⟨"PlainPacks", "pack", "(I)I"⟩ ⟨"PlainPacks", "pack", "(I)I"⟩ ∈ mm_tbl := mm_tb (j := 1141) (by decide +kernel)
theorem mm_wc21 : Cond.code ⟨"PlainPacks", "sum", "(I)I"⟩ prog_1_method_10_code 2 (some .int) ∈ mm_tbl := mm_tb6 (j := 194) rfl
theorem mm_ws21 : tables_1[1392]? = some (.instanceMethod ⟨"PlainPacks", "sum", "(I)I"⟩) := by decide +kernel
theorem mm_we21 : Cond.selects "PlainPacks" ⟨"PlainPacks", "sum", "(I)I"⟩ ⟨"PlainPacks", "sum", "(I)I"⟩ ∈ mm_tbl := mm_tb (j := 1393) (by decide +kernel)
theorem mm_wc22 : Cond.code ⟨"PlainPacks", "least", "()I"⟩ prog_1_method_11_code 1 (some .int) ∈ mm_tbl := mm_tb3 (j := 46) rfl
theorem mm_ws22 : tables_1[524]? = some (.instanceMethod ⟨"PlainPacks", "least", "()I"⟩) := by decide +kernel
theorem mm_we22 : Cond.selects "PlainPacks" ⟨"PlainPacks", "least", "()I"⟩ ⟨"PlainPacks", "least", "()I"⟩ ∈ mm_tbl := mm_tb (j := 525) (by decide +kernel)
theorem mm_wc23 : Cond.code ⟨"PlainPacks", "length", "(I)I"⟩ prog_1_method_12_code 3 (some .int) ∈ mm_tbl := mm_tb6 (j := 206) rfl
theorem mm_ws23 : tables_1[1404]? = some (.instanceMethod ⟨"PlainPacks", "length", "(I)I"⟩) := by decide +kernel
theorem mm_we23 : Cond.selects "PlainPacks" ⟨"PlainPacks", "length", "(I)I"⟩ ⟨"PlainPacks", "length", "(I)I"⟩ ∈ mm_tbl := mm_tb (j := 1405) (by decide +kernel)
theorem mm_wc24 : Cond.code ⟨"PlainPacks", "turning", "(I)I"⟩ prog_1_method_13_code 2 (some .int) ∈ mm_tbl := mm_tb6 (j := 231) rfl
theorem mm_ws24 : tables_1[1429]? = some (.instanceMethod ⟨"PlainPacks", "turning", "(I)I"⟩) := by decide +kernel
theorem mm_we24 : Cond.selects "PlainPacks" ⟨"PlainPacks", "turning", "(I)I"⟩ ⟨"PlainPacks", "turning", "(I)I"⟩ ∈ mm_tbl := mm_tb (j := 1430) (by decide +kernel)
theorem mm_wc25 : Cond.code ⟨"PlainPacks", "count", "(I)I"⟩ prog_1_method_14_code 2 (some .int) ∈ mm_tbl := mm_tb7 (j := 0) rfl
theorem mm_ws25 : tables_1[1438]? = some (.instanceMethod ⟨"PlainPacks", "count", "(I)I"⟩) := by decide +kernel
theorem mm_we25 : Cond.selects "PlainPacks" ⟨"PlainPacks", "count", "(I)I"⟩ ⟨"PlainPacks", "count", "(I)I"⟩ ∈ mm_tbl := mm_tb (j := 1439) (by decide +kernel)
theorem mm_wc26 : Cond.code ⟨"PlainPacks", "needForm", "(I)V"⟩ prog_1_method_15_code 1 none ∈ mm_tbl := mm_tb3 (j := 228) rfl
theorem mm_ws26 : tables_1[707]? = some (.static ⟨"PlainPacks", "needForm", "(I)V"⟩) := by decide +kernel
theorem mm_wc27 : Cond.code ⟨"PlainPacks", "wrongIf", "(Z)V"⟩ prog_1_method_16_code 1 none ∈ mm_tbl := mm_tb4 (j := 52) rfl
theorem mm_ws27 : tables_1[771]? = some (.static ⟨"PlainPacks", "wrongIf", "(Z)V"⟩) := by decide +kernel
theorem mm_wc28 : Cond.code ⟨"PlainPacks", "crcOf", "([III)I"⟩ prog_1_method_17_code 6 (some .int) ∈ mm_tbl := mm_tb4 (j := 162) rfl
theorem mm_ws28 : tables_1[881]? = some (.static ⟨"PlainPacks", "crcOf", "([III)I"⟩) := by decide +kernel
theorem mm_wc29 : Cond.code ⟨"PlainPacks", "crcHighOf", "([III)I"⟩ prog_1_method_18_code 6 (some .int) ∈ mm_tbl := mm_tb5 (j := 89) rfl
theorem mm_ws29 : tables_1[1048]? = some (.static ⟨"PlainPacks", "crcHighOf", "([III)I"⟩) := by decide +kernel
theorem mm_wc30 : Cond.code ⟨"PlainPacks", "adlerOf", "([III)I"⟩ prog_1_method_19_code 6 (some .int) ∈ mm_tbl := mm_tb4 (j := 145) rfl
theorem mm_ws30 : tables_1[864]? = some (.static ⟨"PlainPacks", "adlerOf", "([III)I"⟩) := by decide +kernel
theorem mm_wc31 : Cond.code ⟨"PlainPacks", "xxOf", "([III)I"⟩ prog_1_method_20_code 9 (some .int) ∈ mm_tbl := mm_tb4 (j := 230) rfl
theorem mm_ws31 : tables_1[949]? = some (.static ⟨"PlainPacks", "xxOf", "([III)I"⟩) := by decide +kernel
theorem mm_wc32 : Cond.code ⟨"PlainPacks", "turnedLeft", "(II)I"⟩ prog_1_method_21_code 2 (some .int) ∈ mm_tbl := mm_tb5 (j := 0) rfl
theorem mm_ws32 : tables_1[959]? = some (.static ⟨"PlainPacks", "turnedLeft", "(II)I"⟩) := by decide +kernel
theorem mm_wc33 : Cond.code ⟨"PlainPacks", "lowWord", "([II)I"⟩ prog_1_method_22_code 2 (some .int) ∈ mm_tbl := mm_tb4 (j := 237) rfl
theorem mm_ws33 : tables_1[956]? = some (.static ⟨"PlainPacks", "lowWord", "([II)I"⟩) := by decide +kernel
theorem mm_wc34 : Cond.code ⟨"PlainPacks", "topBit", "(I)I"⟩ prog_1_method_23_code 3 (some .int) ∈ mm_tbl := mm_tb3 (j := 71) rfl
theorem mm_ws34 : tables_1[550]? = some (.static ⟨"PlainPacks", "topBit", "(I)I"⟩) := by decide +kernel
theorem mm_wc35 : Cond.code ⟨"PlainPacks", "weigh", "()I"⟩ prog_1_method_24_code 3 (some .int) ∈ mm_tbl := mm_tb6 (j := 211) rfl
theorem mm_ws35 : tables_1[1410]? = some (.instanceMethod ⟨"PlainPacks", "weigh", "()I"⟩) := by decide +kernel
theorem mm_we35 : Cond.selects "PlainPacks" ⟨"PlainPacks", "weigh", "()I"⟩ ⟨"PlainPacks", "weigh", "()I"⟩ ∈ mm_tbl := mm_tbF (List.mem_append_left _ (List.mem_of_getElem? (i := 71) (by decide +kernel)))
theorem mm_wc36 : Cond.code ⟨"PlainPacks", "joinAll", "(I)V"⟩ prog_1_method_25_code 6 none ∈ mm_tbl := mm_tb6 (j := 216) rfl
theorem mm_ws36 : tables_1[1415]? = some (.instanceMethod ⟨"PlainPacks", "joinAll", "(I)V"⟩) := by decide +kernel
theorem mm_we36 : Cond.selects "PlainPacks" ⟨"PlainPacks", "joinAll", "(I)V"⟩ ⟨"PlainPacks", "joinAll", "(I)V"⟩ ∈ mm_tbl := mm_tbF (List.mem_append_left _ (List.mem_of_getElem? (i := 72) (by decide +kernel)))
theorem mm_wc37 : Cond.code ⟨"PlainPacks", "lightest", "(II)I"⟩ prog_1_method_26_code 6 (some .int) ∈ mm_tbl := mm_tb6 (j := 220) rfl
theorem mm_ws37 : tables_1[1419]? = some (.instanceMethod ⟨"PlainPacks", "lightest", "(II)I"⟩) := by decide +kernel
theorem mm_we37 : Cond.selects "PlainPacks" ⟨"PlainPacks", "lightest", "(II)I"⟩ ⟨"PlainPacks", "lightest", "(II)I"⟩ ∈ mm_tbl := mm_tbF (List.mem_append_left _ (List.mem_of_getElem? (i := 73) (by decide +kernel)))
theorem mm_wc38 : Cond.code ⟨"PlainPacks", "depthOf", "(I)I"⟩ prog_1_method_27_code 5 (some .int) ∈ mm_tbl := mm_tb6 (j := 224) rfl
theorem mm_ws38 : tables_1[1423]? = some (.instanceMethod ⟨"PlainPacks", "depthOf", "(I)I"⟩) := by decide +kernel
theorem mm_we38 : Cond.selects "PlainPacks" ⟨"PlainPacks", "depthOf", "(I)I"⟩ ⟨"PlainPacks", "depthOf", "(I)I"⟩ ∈ mm_tbl := mm_tbF (List.mem_append_left _ (List.mem_of_getElem? (i := 74) (by decide +kernel)))
theorem mm_wc39 : Cond.code ⟨"PlainPacks$Source", "add", "(I)V"⟩ prog_9_method_2_code 3 none ∈ mm_tbl := mm_tb3 (j := 158) rfl
theorem mm_ws39 : tables_1[636]? = some (.instanceMethod ⟨"PlainPacks$Source", "add", "(I)V"⟩) := by decide +kernel
theorem mm_we39 : Cond.selects "PlainPacks$Source" ⟨"PlainPacks$Source", "add", "(I)V"⟩ ⟨"PlainPacks$Source", "add", "(I)V"⟩ ∈ mm_tbl := mm_tb (j := 637) (by decide +kernel)
theorem mm_wc40 : Cond.code ⟨"PlainPacks$Source", "start", "()V"⟩ prog_9_method_3_code 1 none ∈ mm_tbl := mm_tb3 (j := 233) rfl
theorem mm_ws40 : tables_1[711]? = some (.instanceMethod ⟨"PlainPacks$Source", "start", "()V"⟩) := by decide +kernel
theorem mm_we40 : Cond.selects "PlainPacks$Source" ⟨"PlainPacks$Source", "start", "()V"⟩ ⟨"PlainPacks$Source", "start", "()V"⟩ ∈ mm_tbl := mm_tb (j := 712) (by decide +kernel)
theorem mm_wc41 : Cond.code ⟨"PlainPacks$Source", "closeBehind", "(I)V"⟩ prog_9_method_4_code 2 none ∈ mm_tbl := mm_tb5 (j := 12) rfl
theorem mm_ws41 : tables_1[970]? = some (.instanceMethod ⟨"PlainPacks$Source", "closeBehind", "(I)V"⟩) := by decide +kernel
theorem mm_we41 : Cond.selects "PlainPacks$Source" ⟨"PlainPacks$Source", "closeBehind", "(I)V"⟩ ⟨"PlainPacks$Source", "closeBehind", "(I)V"⟩ ∈ mm_tbl := mm_tb (j := 971) (by decide +kernel)
theorem mm_wc42 : Cond.code ⟨"PlainPacks$Source", "reopen", "()V"⟩ prog_9_method_5_code 1 none ∈ mm_tbl := mm_tb5 (j := 17) rfl
theorem mm_ws42 : tables_1[975]? = some (.instanceMethod ⟨"PlainPacks$Source", "reopen", "()V"⟩) := by decide +kernel
theorem mm_we42 : Cond.selects "PlainPacks$Source" ⟨"PlainPacks$Source", "reopen", "()V"⟩ ⟨"PlainPacks$Source", "reopen", "()V"⟩ ∈ mm_tbl := mm_tb (j := 976) (by decide +kernel)
theorem mm_wc43 : Cond.code ⟨"PlainPacks$Source", "atEdge", "()Z"⟩ prog_9_method_6_code 1 (some .boolean) ∈ mm_tbl := mm_tb4 (j := 6) rfl
theorem mm_ws43 : tables_1[724]? = some (.instanceMethod ⟨"PlainPacks$Source", "atEdge", "()Z"⟩) := by decide +kernel
theorem mm_we43 : Cond.selects "PlainPacks$Source" ⟨"PlainPacks$Source", "atEdge", "()Z"⟩ ⟨"PlainPacks$Source", "atEdge", "()Z"⟩ ∈ mm_tbl := mm_tb (j := 725) (by decide +kernel)
theorem mm_wc44 : Cond.code ⟨"PlainPacks$Source", "next", "()I"⟩ prog_9_method_7_code 2 (some .int) ∈ mm_tbl := mm_tb4 (j := 10) rfl
theorem mm_ws44 : tables_1[728]? = some (.instanceMethod ⟨"PlainPacks$Source", "next", "()I"⟩) := by decide +kernel
theorem mm_we44 : Cond.selects "PlainPacks$Source" ⟨"PlainPacks$Source", "next", "()I"⟩ ⟨"PlainPacks$Source", "next", "()I"⟩ ∈ mm_tbl := mm_tb (j := 729) (by decide +kernel)
theorem mm_wc45 : Cond.code ⟨"PlainPacks$Source", "bit", "()I"⟩ prog_9_method_8_code 1 (some .int) ∈ mm_tbl := mm_tb4 (j := 43) rfl
theorem mm_ws45 : tables_1[761]? = some (.instanceMethod ⟨"PlainPacks$Source", "bit", "()I"⟩) := by decide +kernel
theorem mm_we45 : Cond.selects "PlainPacks$Source" ⟨"PlainPacks$Source", "bit", "()I"⟩ ⟨"PlainPacks$Source", "bit", "()I"⟩ ∈ mm_tbl := mm_tb (j := 762) (by decide +kernel)
theorem mm_wc46 : Cond.code ⟨"PlainPacks$Source", "bits", "(I)J"⟩ prog_9_method_9_code 7 (some .long) ∈ mm_tbl := mm_tb4 (j := 48) rfl
theorem mm_ws46 : tables_1[766]? = some (.instanceMethod ⟨"PlainPacks$Source", "bits", "(I)J"⟩) := by decide +kernel
theorem mm_we46 : Cond.selects "PlainPacks$Source" ⟨"PlainPacks$Source", "bits", "(I)J"⟩ ⟨"PlainPacks$Source", "bits", "(I)J"⟩ ∈ mm_tbl := mm_tb (j := 767) (by decide +kernel)
theorem mm_wc47 : Cond.code ⟨"PlainPacks$Source", "low", "(I)J"⟩ prog_9_method_10_code 5 (some .long) ∈ mm_tbl := mm_tb4 (j := 62) rfl
theorem mm_ws47 : tables_1[780]? = some (.instanceMethod ⟨"PlainPacks$Source", "low", "(I)J"⟩) := by decide +kernel
theorem mm_we47 : Cond.selects "PlainPacks$Source" ⟨"PlainPacks$Source", "low", "(I)J"⟩ ⟨"PlainPacks$Source", "low", "(I)J"⟩ ∈ mm_tbl := mm_tb (j := 781) (by decide +kernel)
theorem mm_wc48 : Cond.code ⟨"PlainPacks$Source", "high", "(I)J"⟩ prog_9_method_11_code 5 (some .long) ∈ mm_tbl := mm_tb4 (j := 142) rfl
theorem mm_ws48 : tables_1[860]? = some (.instanceMethod ⟨"PlainPacks$Source", "high", "(I)J"⟩) := by decide +kernel
theorem mm_we48 : Cond.selects "PlainPacks$Source" ⟨"PlainPacks$Source", "high", "(I)J"⟩ ⟨"PlainPacks$Source", "high", "(I)J"⟩ ∈ mm_tbl := mm_tb (j := 861) (by decide +kernel)
theorem mm_wc49 : Cond.code ⟨"PlainPacks$Sink", "start", "()V"⟩ prog_7_method_2_code 1 none ∈ mm_tbl := mm_tb3 (j := 237) rfl
theorem mm_ws49 : tables_1[715]? = some (.instanceMethod ⟨"PlainPacks$Sink", "start", "()V"⟩) := by decide +kernel
theorem mm_we49 : Cond.selects "PlainPacks$Sink" ⟨"PlainPacks$Sink", "start", "()V"⟩ ⟨"PlainPacks$Sink", "start", "()V"⟩ ∈ mm_tbl := mm_tb (j := 716) (by decide +kernel)
theorem mm_wc50 : Cond.code ⟨"PlainPacks$Sink", "become", "([II)V"⟩ prog_7_method_3_code 3 none ∈ mm_tbl := mm_tb6 (j := 186) rfl
theorem mm_ws50 : tables_1[1384]? = some (.instanceMethod ⟨"PlainPacks$Sink", "become", "([II)V"⟩) := by decide +kernel
theorem mm_we50 : Cond.selects "PlainPacks$Sink" ⟨"PlainPacks$Sink", "become", "([II)V"⟩ ⟨"PlainPacks$Sink", "become", "([II)V"⟩ ∈ mm_tbl := mm_tb (j := 1385) (by decide +kernel)
theorem mm_wc51 : Cond.code ⟨"PlainPacks$Sink", "put", "(I)V"⟩ prog_7_method_4_code 2 none ∈ mm_tbl := mm_tb4 (j := 30) rfl
theorem mm_ws51 : tables_1[748]? = some (.instanceMethod ⟨"PlainPacks$Sink", "put", "(I)V"⟩) := by decide +kernel
theorem mm_we51 : Cond.selects "PlainPacks$Sink" ⟨"PlainPacks$Sink", "put", "(I)V"⟩ ⟨"PlainPacks$Sink", "put", "(I)V"⟩ ∈ mm_tbl := mm_tb (j := 749) (by decide +kernel)
theorem mm_wc52 : Cond.code ⟨"PlainPacks$Sink", "putPlain", "(I)V"⟩ prog_7_method_5_code 2 none ∈ mm_tbl := mm_tb4 (j := 69) rfl
theorem mm_ws52 : tables_1[787]? = some (.instanceMethod ⟨"PlainPacks$Sink", "putPlain", "(I)V"⟩) := by decide +kernel
theorem mm_we52 : Cond.selects "PlainPacks$Sink" ⟨"PlainPacks$Sink", "putPlain", "(I)V"⟩ ⟨"PlainPacks$Sink", "putPlain", "(I)V"⟩ ∈ mm_tbl := mm_tb (j := 788) (by decide +kernel)
theorem mm_wc53 : Cond.code ⟨"PlainPacks$Sink", "copy", "(IJ)V"⟩ prog_7_method_6_code 5 none ∈ mm_tbl := mm_tb4 (j := 127) rfl
theorem mm_ws53 : tables_1[845]? = some (.instanceMethod ⟨"PlainPacks$Sink", "copy", "(IJ)V"⟩) := by decide +kernel
theorem mm_we53 : Cond.selects "PlainPacks$Sink" ⟨"PlainPacks$Sink", "copy", "(IJ)V"⟩ ⟨"PlainPacks$Sink", "copy", "(IJ)V"⟩ ∈ mm_tbl := mm_tb (j := 846) (by decide +kernel)
theorem mm_wc54 : Cond.code ⟨"PlainPacks$Sink", "repeat", "(II)V"⟩ prog_7_method_7_code 4 none ∈ mm_tbl := mm_tb4 (j := 133) rfl
theorem mm_ws54 : tables_1[851]? = some (.instanceMethod ⟨"PlainPacks$Sink", "repeat", "(II)V"⟩) := by decide +kernel
theorem mm_we54 : Cond.selects "PlainPacks$Sink" ⟨"PlainPacks$Sink", "repeat", "(II)V"⟩ ⟨"PlainPacks$Sink", "repeat", "(II)V"⟩ ∈ mm_tbl := mm_tb (j := 852) (by decide +kernel)
theorem mm_wc55 : Cond.code ⟨"PlainPacks$Writer", "start", "()V"⟩ prog_12_method_2_code 1 none ∈ mm_tbl := mm_tb5 (j := 186) rfl
theorem mm_ws55 : tables_1[1144]? = some (.instanceMethod ⟨"PlainPacks$Writer", "start", "()V"⟩) := by decide +kernel
theorem mm_we55 : Cond.selects "PlainPacks$Writer" ⟨"PlainPacks$Writer", "start", "()V"⟩ ⟨"PlainPacks$Writer", "start", "()V"⟩ ∈ mm_tbl := mm_tb (j := 1145) (by decide +kernel)
theorem mm_wc56 : Cond.code ⟨"PlainPacks$Writer", "back", "(I)V"⟩ prog_12_method_3_code 2 none ∈ mm_tbl := mm_tb5 (j := 190) rfl
theorem mm_ws56 : tables_1[1148]? = some (.instanceMethod ⟨"PlainPacks$Writer", "back", "(I)V"⟩) := by decide +kernel
theorem mm_we56 : Cond.selects "PlainPacks$Writer" ⟨"PlainPacks$Writer", "back", "(I)V"⟩ ⟨"PlainPacks$Writer", "back", "(I)V"⟩ ∈ mm_tbl := mm_tb (j := 1149) (by decide +kernel)
theorem mm_wc57 : Cond.code ⟨"PlainPacks$Writer", "put", "(I)V"⟩ prog_12_method_4_code 2 none ∈ mm_tbl := mm_tb5 (j := 202) rfl
theorem mm_ws57 : tables_1[1160]? = some (.instanceMethod ⟨"PlainPacks$Writer", "put", "(I)V"⟩) := by decide +kernel
theorem mm_we57 : Cond.selects "PlainPacks$Writer" ⟨"PlainPacks$Writer", "put", "(I)V"⟩ ⟨"PlainPacks$Writer", "put", "(I)V"⟩ ∈ mm_tbl := mm_tb (j := 1161) (by decide +kernel)
theorem mm_wc58 : Cond.code ⟨"PlainPacks$Writer", "putAll", "([III)V"⟩ prog_12_method_5_code 5 none ∈ mm_tbl := mm_tb5 (j := 206) rfl
theorem mm_ws58 : tables_1[1164]? = some (.instanceMethod ⟨"PlainPacks$Writer", "putAll", "([III)V"⟩) := by decide +kernel
theorem mm_we58 : Cond.selects "PlainPacks$Writer" ⟨"PlainPacks$Writer", "putAll", "([III)V"⟩ ⟨"PlainPacks$Writer", "putAll", "([III)V"⟩ ∈ mm_tbl := mm_tb (j := 1165) (by decide +kernel)
theorem mm_wc59 : Cond.code ⟨"PlainPacks$Writer", "low", "(JI)V"⟩ prog_12_method_6_code 5 none ∈ mm_tbl := mm_tb6 (j := 36) rfl
theorem mm_ws59 : tables_1[1234]? = some (.instanceMethod ⟨"PlainPacks$Writer", "low", "(JI)V"⟩) := by decide +kernel
theorem mm_we59 : Cond.selects "PlainPacks$Writer" ⟨"PlainPacks$Writer", "low", "(JI)V"⟩ ⟨"PlainPacks$Writer", "low", "(JI)V"⟩ ∈ mm_tbl := mm_tb (j := 1235) (by decide +kernel)
theorem mm_wc60 : Cond.code ⟨"PlainPacks$Writer", "high", "(JI)V"⟩ prog_12_method_7_code 5 none ∈ mm_tbl := mm_tb6 (j := 27) rfl
theorem mm_ws60 : tables_1[1225]? = some (.instanceMethod ⟨"PlainPacks$Writer", "high", "(JI)V"⟩) := by decide +kernel
theorem mm_we60 : Cond.selects "PlainPacks$Writer" ⟨"PlainPacks$Writer", "high", "(JI)V"⟩ ⟨"PlainPacks$Writer", "high", "(JI)V"⟩ ∈ mm_tbl := mm_tb (j := 1226) (by decide +kernel)
theorem mm_wc61 : Cond.code ⟨"PlainPacks$Writer", "bit", "(I)V"⟩ prog_12_method_8_code 2 none ∈ mm_tbl := mm_tb5 (j := 219) rfl
theorem mm_ws61 : tables_1[1177]? = some (.instanceMethod ⟨"PlainPacks$Writer", "bit", "(I)V"⟩) := by decide +kernel
theorem mm_we61 : Cond.selects "PlainPacks$Writer" ⟨"PlainPacks$Writer", "bit", "(I)V"⟩ ⟨"PlainPacks$Writer", "bit", "(I)V"⟩ ∈ mm_tbl := mm_tb (j := 1178) (by decide +kernel)
theorem mm_wc62 : Cond.code ⟨"PlainPacks$Writer", "bits", "(JI)V"⟩ prog_12_method_9_code 5 none ∈ mm_tbl := mm_tb5 (j := 215) rfl
theorem mm_ws62 : tables_1[1173]? = some (.instanceMethod ⟨"PlainPacks$Writer", "bits", "(JI)V"⟩) := by decide +kernel
theorem mm_we62 : Cond.selects "PlainPacks$Writer" ⟨"PlainPacks$Writer", "bits", "(JI)V"⟩ ⟨"PlainPacks$Writer", "bits", "(JI)V"⟩ ∈ mm_tbl := mm_tb (j := 1174) (by decide +kernel)
theorem mm_wc63 : Cond.code ⟨"PlainPacks$Writer", "code", "(II)V"⟩ prog_12_method_10_code 4 none ∈ mm_tbl := mm_tb6 (j := 9) rfl
theorem mm_ws63 : tables_1[1207]? = some (.instanceMethod ⟨"PlainPacks$Writer", "code", "(II)V"⟩) := by decide +kernel
theorem mm_we63 : Cond.selects "PlainPacks$Writer" ⟨"PlainPacks$Writer", "code", "(II)V"⟩ ⟨"PlainPacks$Writer", "code", "(II)V"⟩ ∈ mm_tbl := mm_tb (j := 1208) (by decide +kernel)
theorem mm_wc64 : Cond.code ⟨"PlainPacks$Writer", "closeByte", "()V"⟩ prog_12_method_11_code 1 none ∈ mm_tbl := mm_tb6 (j := 17) rfl
theorem mm_ws64 : tables_1[1215]? = some (.instanceMethod ⟨"PlainPacks$Writer", "closeByte", "()V"⟩) := by decide +kernel
theorem mm_we64 : Cond.selects "PlainPacks$Writer" ⟨"PlainPacks$Writer", "closeByte", "()V"⟩ ⟨"PlainPacks$Writer", "closeByte", "()V"⟩ ∈ mm_tbl := mm_tb (j := 1216) (by decide +kernel)
theorem mm_wc65 : Cond.code ⟨"PlainPacks$Writer", "carry", "()V"⟩ prog_12_method_12_code 3 none ∈ mm_tbl := mm_tb6 (j := 181) rfl
theorem mm_ws65 : tables_1[1379]? = some (.instanceMethod ⟨"PlainPacks$Writer", "carry", "()V"⟩) := by decide +kernel
theorem mm_we65 : Cond.selects "PlainPacks$Writer" ⟨"PlainPacks$Writer", "carry", "()V"⟩ ⟨"PlainPacks$Writer", "carry", "()V"⟩ ∈ mm_tbl := mm_tb (j := 1380) (by decide +kernel)
theorem mm_wc66 : Cond.code ⟨"PlainPacks$Turnings", "sort", "([II)V"⟩ prog_10_method_2_code 6 none ∈ mm_tbl := mm_tb6 (j := 120) rfl
theorem mm_ws66 : tables_1[1318]? = some (.instanceMethod ⟨"PlainPacks$Turnings", "sort", "([II)V"⟩) := by decide +kernel
theorem mm_we66 : Cond.selects "PlainPacks$Turnings" ⟨"PlainPacks$Turnings", "sort", "([II)V"⟩ ⟨"PlainPacks$Turnings", "sort", "([II)V"⟩ ∈ mm_tbl := mm_tb (j := 1319) (by decide +kernel)
theorem mm_wc67 : Cond.code ⟨"PlainPacks$Turnings", "orderByRank", "(I)V"⟩ prog_10_method_3_code 4 none ∈ mm_tbl := mm_tb6 (j := 125) rfl
theorem mm_ws67 : tables_1[1324]? = some (.instanceMethod ⟨"PlainPacks$Turnings", "orderByRank", "(I)V"⟩) := by decide +kernel
theorem mm_we67 : Cond.selects "PlainPacks$Turnings" ⟨"PlainPacks$Turnings", "orderByRank", "(I)V"⟩ ⟨"PlainPacks$Turnings", "orderByRank", "(I)V"⟩ ∈ mm_tbl := mm_tbF (List.mem_append_left _ (List.mem_of_getElem? (i := 60) (by decide +kernel)))
theorem mm_wc68 : Cond.code ⟨"PlainPacks$Turnings", "rankAgain", "(I)V"⟩ prog_10_method_4_code 3 none ∈ mm_tbl := mm_tb6 (j := 129) rfl
theorem mm_ws68 : tables_1[1328]? = some (.instanceMethod ⟨"PlainPacks$Turnings", "rankAgain", "(I)V"⟩) := by decide +kernel
theorem mm_we68 : Cond.selects "PlainPacks$Turnings" ⟨"PlainPacks$Turnings", "rankAgain", "(I)V"⟩ ⟨"PlainPacks$Turnings", "rankAgain", "(I)V"⟩ ∈ mm_tbl := mm_tbF (List.mem_append_left _ (List.mem_of_getElem? (i := 61) (by decide +kernel)))
theorem mm_wc69 : Cond.code ⟨"PlainPacks$Turnings", "differ", "(III)Z"⟩ prog_10_method_5_code 6 (some .boolean) ∈ mm_tbl := mm_tb6 (j := 133) rfl
theorem mm_ws69 : tables_1[1332]? = some (.instanceMethod ⟨"PlainPacks$Turnings", "differ", "(III)Z"⟩) := by decide +kernel
theorem mm_we69 : Cond.selects "PlainPacks$Turnings" ⟨"PlainPacks$Turnings", "differ", "(III)Z"⟩ ⟨"PlainPacks$Turnings", "differ", "(III)Z"⟩ ∈ mm_tbl := mm_tbF (List.mem_append_left _ (List.mem_of_getElem? (i := 62) (by decide +kernel)))
theorem mm_wc70 : Cond.code ⟨"PlainPacks$Finder", "start", "()V"⟩ prog_5_method_2_code 1 none ∈ mm_tbl := mm_tb5 (j := 223) rfl
theorem mm_ws70 : tables_1[1181]? = some (.instanceMethod ⟨"PlainPacks$Finder", "start", "()V"⟩) := by decide +kernel
theorem mm_we70 : Cond.selects "PlainPacks$Finder" ⟨"PlainPacks$Finder", "start", "()V"⟩ ⟨"PlainPacks$Finder", "start", "()V"⟩ ∈ mm_tbl := mm_tb (j := 1182) (by decide +kernel)
theorem mm_wc71 : Cond.code ⟨"PlainPacks$Finder", "find", "(II)V"⟩ prog_5_method_3_code 7 none ∈ mm_tbl := mm_tb5 (j := 228) rfl
theorem mm_ws71 : tables_1[1186]? = some (.instanceMethod ⟨"PlainPacks$Finder", "find", "(II)V"⟩) := by decide +kernel
theorem mm_we71 : Cond.selects "PlainPacks$Finder" ⟨"PlainPacks$Finder", "find", "(II)V"⟩ ⟨"PlainPacks$Finder", "find", "(II)V"⟩ ∈ mm_tbl := mm_tb (j := 1187) (by decide +kernel)
theorem mm_wc72 : Cond.code ⟨"PlainPacks$Finder", "enterTo", "(I)V"⟩ prog_5_method_4_code 3 none ∈ mm_tbl := mm_tb5 (j := 233) rfl
theorem mm_ws72 : tables_1[1192]? = some (.instanceMethod ⟨"PlainPacks$Finder", "enterTo", "(I)V"⟩) := by decide +kernel
theorem mm_we72 : Cond.selects "PlainPacks$Finder" ⟨"PlainPacks$Finder", "enterTo", "(I)V"⟩ ⟨"PlainPacks$Finder", "enterTo", "(I)V"⟩ ∈ mm_tbl := mm_tbF (List.mem_append_left _ (List.mem_of_getElem? (i := 44) (by decide +kernel)))
theorem mm_wc73 : Cond.code ⟨"PlainPacks$Finder", "headOf", "(I)I"⟩ prog_5_method_5_code 2 (some .int) ∈ mm_tbl := mm_tb5 (j := 237) rfl
theorem mm_ws73 : tables_1[1196]? = some (.instanceMethod ⟨"PlainPacks$Finder", "headOf", "(I)I"⟩) := by decide +kernel
theorem mm_we73 : Cond.selects "PlainPacks$Finder" ⟨"PlainPacks$Finder", "headOf", "(I)I"⟩ ⟨"PlainPacks$Finder", "headOf", "(I)I"⟩ ∈ mm_tbl := mm_tbF (List.mem_append_left _ (List.mem_of_getElem? (i := 45) (by decide +kernel)))
theorem mm_wc74 : Cond.code ⟨"PlainPacks$Finder", "alike", "(III)I"⟩ prog_5_method_6_code 5 (some .int) ∈ mm_tbl := mm_tb6 (j := 1) rfl
theorem mm_ws74 : tables_1[1200]? = some (.instanceMethod ⟨"PlainPacks$Finder", "alike", "(III)I"⟩) := by decide +kernel
theorem mm_we74 : Cond.selects "PlainPacks$Finder" ⟨"PlainPacks$Finder", "alike", "(III)I"⟩ ⟨"PlainPacks$Finder", "alike", "(III)I"⟩ ∈ mm_tbl := mm_tbF (List.mem_append_left _ (List.mem_of_getElem? (i := 46) (by decide +kernel)))
theorem mm_wc75 : Cond.code ⟨"PlainPacks$Blocks", "readWrapped", "()V"⟩ prog_2_method_2_code 3 none ∈ mm_tbl := mm_tb4 (j := 137) rfl
theorem mm_ws75 : tables_1[855]? = some (.instanceMethod ⟨"PlainPacks$Blocks", "readWrapped", "()V"⟩) := by decide +kernel
theorem mm_we75 : Cond.selects "PlainPacks$Blocks" ⟨"PlainPacks$Blocks", "readWrapped", "()V"⟩ ⟨"PlainPacks$Blocks", "readWrapped", "()V"⟩ ∈ mm_tbl := mm_tb (j := 856) (by decide +kernel)
theorem mm_wc76 : Cond.code ⟨"PlainPacks$Blocks", "readFile", "()V"⟩ prog_2_method_3_code 3 none ∈ mm_tbl := mm_tb4 (j := 151) rfl
theorem mm_ws76 : tables_1[869]? = some (.instanceMethod ⟨"PlainPacks$Blocks", "readFile", "()V"⟩) := by decide +kernel
theorem mm_we76 : Cond.selects "PlainPacks$Blocks" ⟨"PlainPacks$Blocks", "readFile", "()V"⟩ ⟨"PlainPacks$Blocks", "readFile", "()V"⟩ ∈ mm_tbl := mm_tb (j := 870) (by decide +kernel)
theorem mm_wc77 : Cond.code ⟨"PlainPacks$Blocks", "passBytes", "(I)V"⟩ prog_2_method_4_code 3 none ∈ mm_tbl := mm_tb4 (j := 155) rfl
theorem mm_ws77 : tables_1[874]? = some (.instanceMethod ⟨"PlainPacks$Blocks", "passBytes", "(I)V"⟩) := by decide +kernel
theorem mm_we77 : Cond.selects "PlainPacks$Blocks" ⟨"PlainPacks$Blocks", "passBytes", "(I)V"⟩ ⟨"PlainPacks$Blocks", "passBytes", "(I)V"⟩ ∈ mm_tbl := mm_tbF (List.mem_append_left _ (List.mem_of_getElem? (i := 9) (by decide +kernel)))
theorem mm_wc78 : Cond.code ⟨"PlainPacks$Blocks", "passText", "()V"⟩ prog_2_method_5_code 3 none ∈ mm_tbl := mm_tb4 (j := 159) rfl
theorem mm_ws78 : tables_1[878]? = some (.instanceMethod ⟨"PlainPacks$Blocks", "passText", "()V"⟩) := by decide +kernel
theorem mm_we78 : Cond.selects "PlainPacks$Blocks" ⟨"PlainPacks$Blocks", "passText", "()V"⟩ ⟨"PlainPacks$Blocks", "passText", "()V"⟩ ∈ mm_tbl := mm_tbF (List.mem_append_left _ (List.mem_of_getElem? (i := 10) (by decide +kernel)))
theorem mm_wc79 : Cond.code ⟨"PlainPacks$Blocks", "readBlocks", "(I)V"⟩ prog_2_method_6_code 5 none ∈ mm_tbl := mm_tb4 (j := 38) rfl
theorem mm_ws79 : tables_1[756]? = some (.instanceMethod ⟨"PlainPacks$Blocks", "readBlocks", "(I)V"⟩) := by decide +kernel
theorem mm_we79 : Cond.selects "PlainPacks$Blocks" ⟨"PlainPacks$Blocks", "readBlocks", "(I)V"⟩ ⟨"PlainPacks$Blocks", "readBlocks", "(I)V"⟩ ∈ mm_tbl := mm_tb (j := 757) (by decide +kernel)
theorem mm_wc80 : Cond.code ⟨"PlainPacks$Blocks", "readPlain", "()V"⟩ prog_2_method_7_code 3 none ∈ mm_tbl := mm_tb4 (j := 58) rfl
theorem mm_ws80 : tables_1[777]? = some (.instanceMethod ⟨"PlainPacks$Blocks", "readPlain", "()V"⟩) := by decide +kernel
theorem mm_we80 : Cond.selects "PlainPacks$Blocks" ⟨"PlainPacks$Blocks", "readPlain", "()V"⟩ ⟨"PlainPacks$Blocks", "readPlain", "()V"⟩ ∈ mm_tbl := mm_tbF (List.mem_append_left _ (List.mem_of_getElem? (i := 1) (by decide +kernel)))
theorem mm_wc81 : Cond.code ⟨"PlainPacks$Blocks", "setKnownCodes", "()V"⟩ prog_2_method_8_code 2 none ∈ mm_tbl := mm_tb4 (j := 74) rfl
theorem mm_ws81 : tables_1[793]? = some (.instanceMethod ⟨"PlainPacks$Blocks", "setKnownCodes", "()V"⟩) := by decide +kernel
theorem mm_we81 : Cond.selects "PlainPacks$Blocks" ⟨"PlainPacks$Blocks", "setKnownCodes", "()V"⟩ ⟨"PlainPacks$Blocks", "setKnownCodes", "()V"⟩ ∈ mm_tbl := mm_tbF (List.mem_append_left _ (List.mem_of_getElem? (i := 2) (by decide +kernel)))
theorem mm_wc82 : Cond.code ⟨"PlainPacks$Blocks", "knownLength", "(I)I"⟩ prog_2_method_9_code 1 (some .int) ∈ mm_tbl := mm_tb3 (j := 59) rfl
theorem mm_ws82 : tables_1[538]? = some (.static ⟨"PlainPacks$Blocks", "knownLength", "(I)I"⟩) := by decide +kernel
theorem mm_wc83 : Cond.code ⟨"PlainPacks$Blocks", "readRowCodes", "()V"⟩ prog_2_method_10_code 3 none ∈ mm_tbl := mm_tb4 (j := 85) rfl
theorem mm_ws83 : tables_1[804]? = some (.instanceMethod ⟨"PlainPacks$Blocks", "readRowCodes", "()V"⟩) := by decide +kernel
theorem mm_we83 : Cond.selects "PlainPacks$Blocks" ⟨"PlainPacks$Blocks", "readRowCodes", "()V"⟩ ⟨"PlainPacks$Blocks", "readRowCodes", "()V"⟩ ∈ mm_tbl := mm_tbF (List.mem_append_left _ (List.mem_of_getElem? (i := 3) (by decide +kernel)))
theorem mm_wc84 : Cond.code ⟨"PlainPacks$Blocks", "readRow", "()V"⟩ prog_2_method_11_code 7 none ∈ mm_tbl := mm_tb4 (j := 93) rfl
theorem mm_ws84 : tables_1[812]? = some (.instanceMethod ⟨"PlainPacks$Blocks", "readRow", "()V"⟩) := by decide +kernel
theorem mm_we84 : Cond.selects "PlainPacks$Blocks" ⟨"PlainPacks$Blocks", "readRow", "()V"⟩ ⟨"PlainPacks$Blocks", "readRow", "()V"⟩ ∈ mm_tbl := mm_tbF (List.mem_append_left _ (List.mem_of_getElem? (i := 4) (by decide +kernel)))
theorem mm_wc85 : Cond.code ⟨"PlainPacks$Blocks", "setRowCodes", "()V"⟩ prog_2_method_12_code 1 none ∈ mm_tbl := mm_tb4 (j := 106) rfl
theorem mm_ws85 : tables_1[825]? = some (.instanceMethod ⟨"PlainPacks$Blocks", "setRowCodes", "()V"⟩) := by decide +kernel
theorem mm_we85 : Cond.selects "PlainPacks$Blocks" ⟨"PlainPacks$Blocks", "setRowCodes", "()V"⟩ ⟨"PlainPacks$Blocks", "setRowCodes", "()V"⟩ ∈ mm_tbl := mm_tbF (List.mem_append_left _ (List.mem_of_getElem? (i := 5) (by decide +kernel)))
theorem mm_wc86 : Cond.code ⟨"PlainPacks$Blocks", "readLetters", "(I)V"⟩ prog_2_method_13_code 6 none ∈ mm_tbl := mm_tb4 (j := 115) rfl
theorem mm_ws86 : tables_1[834]? = some (.instanceMethod ⟨"PlainPacks$Blocks", "readLetters", "(I)V"⟩) := by decide +kernel
theorem mm_we86 : Cond.selects "PlainPacks$Blocks" ⟨"PlainPacks$Blocks", "readLetters", "(I)V"⟩ ⟨"PlainPacks$Blocks", "readLetters", "(I)V"⟩ ∈ mm_tbl := mm_tbF (List.mem_append_left _ (List.mem_of_getElem? (i := 6) (by decide +kernel)))
theorem mm_wc87 : Cond.code ⟨"PlainPacks$Blocks", "readLength", "(I)I"⟩ prog_2_method_14_code 3 (some .int) ∈ mm_tbl := mm_tb4 (j := 119) rfl
theorem mm_ws87 : tables_1[838]? = some (.instanceMethod ⟨"PlainPacks$Blocks", "readLength", "(I)I"⟩) := by decide +kernel
theorem mm_we87 : Cond.selects "PlainPacks$Blocks" ⟨"PlainPacks$Blocks", "readLength", "(I)I"⟩ ⟨"PlainPacks$Blocks", "readLength", "(I)I"⟩ ∈ mm_tbl := mm_tbF (List.mem_append_left _ (List.mem_of_getElem? (i := 7) (by decide +kernel)))
theorem mm_wc88 : Cond.code ⟨"PlainPacks$Blocks", "readDistance", "()I"⟩ prog_2_method_15_code 3 (some .int) ∈ mm_tbl := mm_tb4 (j := 123) rfl
theorem mm_ws88 : tables_1[842]? = some (.instanceMethod ⟨"PlainPacks$Blocks", "readDistance", "()I"⟩) := by decide +kernel
theorem mm_we88 : Cond.selects "PlainPacks$Blocks" ⟨"PlainPacks$Blocks", "readDistance", "()I"⟩ ⟨"PlainPacks$Blocks", "readDistance", "()I"⟩ ∈ mm_tbl := mm_tbF (List.mem_append_left _ (List.mem_of_getElem? (i := 8) (by decide +kernel)))
theorem mm_wc89 : Cond.code ⟨"PlainPacks$Blocks", "writeWrapped", "()V"⟩ prog_2_method_16_code 1 none ∈ mm_tbl := mm_tb6 (j := 21) rfl
theorem mm_ws89 : tables_1[1219]? = some (.instanceMethod ⟨"PlainPacks$Blocks", "writeWrapped", "()V"⟩) := by decide +kernel
theorem mm_we89 : Cond.selects "PlainPacks$Blocks" ⟨"PlainPacks$Blocks", "writeWrapped", "()V"⟩ ⟨"PlainPacks$Blocks", "writeWrapped", "()V"⟩ ∈ mm_tbl := mm_tb (j := 1220) (by decide +kernel)
theorem mm_wc90 : Cond.code ⟨"PlainPacks$Blocks", "writeFile", "()V"⟩ prog_2_method_17_code 1 none ∈ mm_tbl := mm_tb6 (j := 32) rfl
theorem mm_ws90 : tables_1[1230]? = some (.instanceMethod ⟨"PlainPacks$Blocks", "writeFile", "()V"⟩) := by decide +kernel
theorem mm_we90 : Cond.selects "PlainPacks$Blocks" ⟨"PlainPacks$Blocks", "writeFile", "()V"⟩ ⟨"PlainPacks$Blocks", "writeFile", "()V"⟩ ∈ mm_tbl := mm_tb (j := 1231) (by decide +kernel)
theorem mm_wc91 : Cond.code ⟨"PlainPacks$Blocks", "writeBlock", "()V"⟩ prog_2_method_18_code 2 none ∈ mm_tbl := mm_tb5 (j := 211) rfl
theorem mm_ws91 : tables_1[1169]? = some (.instanceMethod ⟨"PlainPacks$Blocks", "writeBlock", "()V"⟩) := by decide +kernel
theorem mm_we91 : Cond.selects "PlainPacks$Blocks" ⟨"PlainPacks$Blocks", "writeBlock", "()V"⟩ ⟨"PlainPacks$Blocks", "writeBlock", "()V"⟩ ∈ mm_tbl := mm_tb (j := 1170) (by decide +kernel)
theorem mm_wc92 : Cond.code ⟨"PlainPacks$Blocks", "writeLetter", "(I)V"⟩ prog_2_method_19_code 2 none ∈ mm_tbl := mm_tb6 (j := 5) rfl
theorem mm_ws92 : tables_1[1204]? = some (.instanceMethod ⟨"PlainPacks$Blocks", "writeLetter", "(I)V"⟩) := by decide +kernel
theorem mm_we92 : Cond.selects "PlainPacks$Blocks" ⟨"PlainPacks$Blocks", "writeLetter", "(I)V"⟩ ⟨"PlainPacks$Blocks", "writeLetter", "(I)V"⟩ ∈ mm_tbl := mm_tbF (List.mem_append_left _ (List.mem_of_getElem? (i := 47) (by decide +kernel)))
theorem mm_wc93 : Cond.code ⟨"PlainPacks$Blocks", "writeDistance", "(I)V"⟩ prog_2_method_20_code 4 none ∈ mm_tbl := mm_tb6 (j := 13) rfl
theorem mm_ws93 : tables_1[1212]? = some (.instanceMethod ⟨"PlainPacks$Blocks", "writeDistance", "(I)V"⟩) := by decide +kernel
theorem mm_we93 : Cond.selects "PlainPacks$Blocks" ⟨"PlainPacks$Blocks", "writeDistance", "(I)V"⟩ ⟨"PlainPacks$Blocks", "writeDistance", "(I)V"⟩ ∈ mm_tbl := mm_tbF (List.mem_append_left _ (List.mem_of_getElem? (i := 48) (by decide +kernel)))
theorem mm_wc94 : Cond.code ⟨"PlainPacks$Blocks", "letterOf", "(I)I"⟩ prog_2_method_21_code 3 (some .int) ∈ mm_tbl := mm_tb3 (j := 65) rfl
theorem mm_ws94 : tables_1[544]? = some (.static ⟨"PlainPacks$Blocks", "letterOf", "(I)I"⟩) := by decide +kernel
theorem mm_wc95 : Cond.code ⟨"PlainPacks$Blocks", "lengthExtra", "(I)I"⟩ prog_2_method_22_code 2 (some .int) ∈ mm_tbl := mm_tb3 (j := 68) rfl
theorem mm_ws95 : tables_1[547]? = some (.static ⟨"PlainPacks$Blocks", "lengthExtra", "(I)I"⟩) := by decide +kernel
theorem mm_wc96 : Cond.code ⟨"PlainPacks$Blocks", "distanceExtra", "(I)I"⟩ prog_2_method_23_code 2 (some .int) ∈ mm_tbl := mm_tb3 (j := 74) rfl
theorem mm_ws96 : tables_1[553]? = some (.static ⟨"PlainPacks$Blocks", "distanceExtra", "(I)I"⟩) := by decide +kernel
theorem mm_wc97 : Cond.code ⟨"PlainPacks$Blocks", "leastBits", "()I"⟩ prog_2_method_24_code 8 (some .int) ∈ mm_tbl := mm_tb3 (j := 50) rfl
theorem mm_ws97 : tables_1[528]? = some (.instanceMethod ⟨"PlainPacks$Blocks", "leastBits", "()I"⟩) := by decide +kernel
theorem mm_we97 : Cond.selects "PlainPacks$Blocks" ⟨"PlainPacks$Blocks", "leastBits", "()I"⟩ ⟨"PlainPacks$Blocks", "leastBits", "()I"⟩ ∈ mm_tbl := mm_tb (j := 529) (by decide +kernel)
theorem mm_wc98 : Cond.code ⟨"PlainPacks$Blocks", "copyBits", "(II)I"⟩ prog_2_method_25_code 2 (some .int) ∈ mm_tbl := mm_tb3 (j := 62) rfl
theorem mm_ws98 : tables_1[541]? = some (.static ⟨"PlainPacks$Blocks", "copyBits", "(II)I"⟩) := by decide +kernel
theorem mm_wc99 : Cond.code ⟨"PlainPacks$Codes", "make", "(I)V"⟩ prog_4_method_2_code 5 none ∈ mm_tbl := mm_tb4 (j := 78) rfl
theorem mm_ws99 : tables_1[796]? = some (.instanceMethod ⟨"PlainPacks$Codes", "make", "(I)V"⟩) := by decide +kernel
theorem mm_we99 : Cond.selects "PlainPacks$Codes" ⟨"PlainPacks$Codes", "make", "(I)V"⟩ ⟨"PlainPacks$Codes", "make", "(I)V"⟩ ∈ mm_tbl := mm_tb (j := 797) (by decide +kernel)
theorem mm_wc100 : Cond.code ⟨"PlainPacks$Codes", "isOver", "()Z"⟩ prog_4_method_3_code 1 (some .boolean) ∈ mm_tbl := mm_tb5 (j := 66) rfl
theorem mm_ws100 : tables_1[1024]? = some (.instanceMethod ⟨"PlainPacks$Codes", "isOver", "()Z"⟩) := by decide +kernel
theorem mm_we100 : Cond.selects "PlainPacks$Codes" ⟨"PlainPacks$Codes", "isOver", "()Z"⟩ ⟨"PlainPacks$Codes", "isOver", "()Z"⟩ ∈ mm_tbl := mm_tb (j := 1025) (by decide +kernel)
theorem mm_wc101 : Cond.code ⟨"PlainPacks$Codes", "isEmpty", "()Z"⟩ prog_4_method_4_code 1 (some .boolean) ∈ mm_tbl := mm_tb4 (j := 111) rfl
theorem mm_ws101 : tables_1[829]? = some (.instanceMethod ⟨"PlainPacks$Codes", "isEmpty", "()Z"⟩) := by decide +kernel
theorem mm_we101 : Cond.selects "PlainPacks$Codes" ⟨"PlainPacks$Codes", "isEmpty", "()Z"⟩ ⟨"PlainPacks$Codes", "isEmpty", "()Z"⟩ ∈ mm_tbl := mm_tb (j := 830) (by decide +kernel)
theorem mm_wc102 : Cond.code ⟨"PlainPacks$Codes", "isFullOrOne", "()Z"⟩ prog_4_method_5_code 1 (some .boolean) ∈ mm_tbl := mm_tb4 (j := 89) rfl
theorem mm_ws102 : tables_1[807]? = some (.instanceMethod ⟨"PlainPacks$Codes", "isFullOrOne", "()Z"⟩) := by decide +kernel
theorem mm_we102 : Cond.selects "PlainPacks$Codes" ⟨"PlainPacks$Codes", "isFullOrOne", "()Z"⟩ ⟨"PlainPacks$Codes", "isFullOrOne", "()Z"⟩ ∈ mm_tbl := mm_tb (j := 808) (by decide +kernel)
theorem mm_wc103 : Cond.code ⟨"PlainPacks$Codes", "take", "(LPlainPacks$Source;)I"⟩ prog_4_method_6_code 7 (some .int) ∈ mm_tbl := mm_tb4 (j := 97) rfl
theorem mm_ws103 : tables_1[815]? = some (.instanceMethod ⟨"PlainPacks$Codes", "take", "(LPlainPacks$Source;)I"⟩) := by decide +kernel
theorem mm_we103 : Cond.selects "PlainPacks$Codes" ⟨"PlainPacks$Codes", "take", "(LPlainPacks$Source;)I"⟩ ⟨"PlainPacks$Codes", "take", "(LPlainPacks$Source;)I"⟩ ∈ mm_tbl := mm_tb (j := 816) (by decide +kernel)
theorem mm_wc104 : Cond.code ⟨"PlainPacks$Words", "begin", "(II)V"⟩ prog_11_method_2_code 3 none ∈ mm_tbl := mm_tb4 (j := 174) rfl
theorem mm_ws104 : tables_1[893]? = some (.instanceMethod ⟨"PlainPacks$Words", "begin", "(II)V"⟩) := by decide +kernel
theorem mm_we104 : Cond.selects "PlainPacks$Words" ⟨"PlainPacks$Words", "begin", "(II)V"⟩ ⟨"PlainPacks$Words", "begin", "(II)V"⟩ ∈ mm_tbl := mm_tbF (List.mem_append_left _ (List.mem_of_getElem? (i := 11) (by decide +kernel)))
theorem mm_wc105 : Cond.code ⟨"PlainPacks$Words", "forget", "()V"⟩ prog_11_method_3_code 1 none ∈ mm_tbl := mm_tb4 (j := 178) rfl
theorem mm_ws105 : tables_1[897]? = some (.instanceMethod ⟨"PlainPacks$Words", "forget", "()V"⟩) := by decide +kernel
theorem mm_we105 : Cond.selects "PlainPacks$Words" ⟨"PlainPacks$Words", "forget", "()V"⟩ ⟨"PlainPacks$Words", "forget", "()V"⟩ ∈ mm_tbl := mm_tbF (List.mem_append_left _ (List.mem_of_getElem? (i := 12) (by decide +kernel)))
theorem mm_wc106 : Cond.code ⟨"PlainPacks$Words", "widen", "()V"⟩ prog_11_method_4_code 1 none ∈ mm_tbl := mm_tb4 (j := 199) rfl
theorem mm_ws106 : tables_1[918]? = some (.instanceMethod ⟨"PlainPacks$Words", "widen", "()V"⟩) := by decide +kernel
theorem mm_we106 : Cond.selects "PlainPacks$Words" ⟨"PlainPacks$Words", "widen", "()V"⟩ ⟨"PlainPacks$Words", "widen", "()V"⟩ ∈ mm_tbl := mm_tbF (List.mem_append_left _ (List.mem_of_getElem? (i := 16) (by decide +kernel)))
theorem mm_wc107 : Cond.code ⟨"PlainPacks$Words", "readLow", "()V"⟩ prog_11_method_5_code 2 none ∈ mm_tbl := mm_tb4 (j := 168) rfl
theorem mm_ws107 : tables_1[886]? = some (.instanceMethod ⟨"PlainPacks$Words", "readLow", "()V"⟩) := by decide +kernel
theorem mm_we107 : Cond.selects "PlainPacks$Words" ⟨"PlainPacks$Words", "readLow", "()V"⟩ ⟨"PlainPacks$Words", "readLow", "()V"⟩ ∈ mm_tbl := mm_tb (j := 887) (by decide +kernel)
theorem mm_wc108 : Cond.code ⟨"PlainPacks$Words", "readHigh", "()V"⟩ prog_11_method_6_code 1 none ∈ mm_tbl := mm_tb4 (j := 203) rfl
theorem mm_ws108 : tables_1[921]? = some (.instanceMethod ⟨"PlainPacks$Words", "readHigh", "()V"⟩) := by decide +kernel
theorem mm_we108 : Cond.selects "PlainPacks$Words" ⟨"PlainPacks$Words", "readHigh", "()V"⟩ ⟨"PlainPacks$Words", "readHigh", "()V"⟩ ∈ mm_tbl := mm_tb (j := 922) (by decide +kernel)
theorem mm_wc109 : Cond.code ⟨"PlainPacks$Words", "readCodes", "()V"⟩ prog_11_method_7_code 3 none ∈ mm_tbl := mm_tb4 (j := 183) rfl
theorem mm_ws109 : tables_1[902]? = some (.instanceMethod ⟨"PlainPacks$Words", "readCodes", "()V"⟩) := by decide +kernel
theorem mm_we109 : Cond.selects "PlainPacks$Words" ⟨"PlainPacks$Words", "readCodes", "()V"⟩ ⟨"PlainPacks$Words", "readCodes", "()V"⟩ ∈ mm_tbl := mm_tbF (List.mem_append_left _ (List.mem_of_getElem? (i := 13) (by decide +kernel)))
theorem mm_wc110 : Cond.code ⟨"PlainPacks$Words", "tellWord", "()V"⟩ prog_11_method_8_code 1 none ∈ mm_tbl := mm_tb4 (j := 189) rfl
theorem mm_ws110 : tables_1[908]? = some (.instanceMethod ⟨"PlainPacks$Words", "tellWord", "()V"⟩) := by decide +kernel
theorem mm_we110 : Cond.selects "PlainPacks$Words" ⟨"PlainPacks$Words", "tellWord", "()V"⟩ ⟨"PlainPacks$Words", "tellWord", "()V"⟩ ∈ mm_tbl := mm_tbF (List.mem_append_left _ (List.mem_of_getElem? (i := 14) (by decide +kernel)))
theorem mm_wc111 : Cond.code ⟨"PlainPacks$Words", "putWord", "(I)V"⟩ prog_11_method_9_code 3 none ∈ mm_tbl := mm_tb4 (j := 193) rfl
theorem mm_ws111 : tables_1[912]? = some (.instanceMethod ⟨"PlainPacks$Words", "putWord", "(I)V"⟩) := by decide +kernel
theorem mm_we111 : Cond.selects "PlainPacks$Words" ⟨"PlainPacks$Words", "putWord", "(I)V"⟩ ⟨"PlainPacks$Words", "putWord", "(I)V"⟩ ∈ mm_tbl := mm_tbF (List.mem_append_left _ (List.mem_of_getElem? (i := 15) (by decide +kernel)))
theorem mm_wc112 : Cond.code ⟨"PlainPacks$Words", "writeLow", "()V"⟩ prog_11_method_10_code 1 none ∈ mm_tbl := mm_tb6 (j := 40) rfl
theorem mm_ws112 : tables_1[1238]? = some (.instanceMethod ⟨"PlainPacks$Words", "writeLow", "()V"⟩) := by decide +kernel
theorem mm_we112 : Cond.selects "PlainPacks$Words" ⟨"PlainPacks$Words", "writeLow", "()V"⟩ ⟨"PlainPacks$Words", "writeLow", "()V"⟩ ∈ mm_tbl := mm_tb (j := 1239) (by decide +kernel)
theorem mm_wc113 : Cond.code ⟨"PlainPacks$Words", "writeHigh", "()V"⟩ prog_11_method_11_code 1 none ∈ mm_tbl := mm_tb6 (j := 60) rfl
theorem mm_ws113 : tables_1[1258]? = some (.instanceMethod ⟨"PlainPacks$Words", "writeHigh", "()V"⟩) := by decide +kernel
theorem mm_we113 : Cond.selects "PlainPacks$Words" ⟨"PlainPacks$Words", "writeHigh", "()V"⟩ ⟨"PlainPacks$Words", "writeHigh", "()V"⟩ ∈ mm_tbl := mm_tb (j := 1259) (by decide +kernel)
theorem mm_wc114 : Cond.code ⟨"PlainPacks$Words", "writeCodes", "()V"⟩ prog_11_method_12_code 4 none ∈ mm_tbl := mm_tb6 (j := 45) rfl
theorem mm_ws114 : tables_1[1244]? = some (.instanceMethod ⟨"PlainPacks$Words", "writeCodes", "()V"⟩) := by decide +kernel
theorem mm_we114 : Cond.selects "PlainPacks$Words" ⟨"PlainPacks$Words", "writeCodes", "()V"⟩ ⟨"PlainPacks$Words", "writeCodes", "()V"⟩ ∈ mm_tbl := mm_tbF (List.mem_append_left _ (List.mem_of_getElem? (i := 49) (by decide +kernel)))
theorem mm_wc115 : Cond.code ⟨"PlainPacks$Words", "longerWord", "(II)I"⟩ prog_11_method_13_code 5 (some .int) ∈ mm_tbl := mm_tb6 (j := 51) rfl
theorem mm_ws115 : tables_1[1250]? = some (.instanceMethod ⟨"PlainPacks$Words", "longerWord", "(II)I"⟩) := by decide +kernel
theorem mm_we115 : Cond.selects "PlainPacks$Words" ⟨"PlainPacks$Words", "longerWord", "(II)I"⟩ ⟨"PlainPacks$Words", "longerWord", "(II)I"⟩ ∈ mm_tbl := mm_tbF (List.mem_append_left _ (List.mem_of_getElem? (i := 50) (by decide +kernel)))
theorem mm_wc116 : Cond.code ⟨"PlainPacks$Words", "addWord", "(II)V"⟩ prog_11_method_14_code 3 none ∈ mm_tbl := mm_tb6 (j := 55) rfl
theorem mm_ws116 : tables_1[1254]? = some (.instanceMethod ⟨"PlainPacks$Words", "addWord", "(II)V"⟩) := by decide +kernel
theorem mm_we116 : Cond.selects "PlainPacks$Words" ⟨"PlainPacks$Words", "addWord", "(II)V"⟩ ⟨"PlainPacks$Words", "addWord", "(II)V"⟩ ∈ mm_tbl := mm_tbF (List.mem_append_left _ (List.mem_of_getElem? (i := 51) (by decide +kernel)))
theorem mm_wc117 : Cond.code ⟨"PlainPacks$Pieces", "readRuns", "()V"⟩ prog_6_method_2_code 5 none ∈ mm_tbl := mm_tb4 (j := 1) rfl
theorem mm_ws117 : tables_1[719]? = some (.instanceMethod ⟨"PlainPacks$Pieces", "readRuns", "()V"⟩) := by decide +kernel
theorem mm_we117 : Cond.selects "PlainPacks$Pieces" ⟨"PlainPacks$Pieces", "readRuns", "()V"⟩ ⟨"PlainPacks$Pieces", "readRuns", "()V"⟩ ∈ mm_tbl := mm_tb (j := 720) (by decide +kernel)
theorem mm_wc118 : Cond.code ⟨"PlainPacks$Pieces", "readPieces", "(I)V"⟩ prog_6_method_3_code 5 none ∈ mm_tbl := mm_tb4 (j := 207) rfl
theorem mm_ws118 : tables_1[925]? = some (.instanceMethod ⟨"PlainPacks$Pieces", "readPieces", "(I)V"⟩) := by decide +kernel
theorem mm_we118 : Cond.selects "PlainPacks$Pieces" ⟨"PlainPacks$Pieces", "readPieces", "(I)V"⟩ ⟨"PlainPacks$Pieces", "readPieces", "(I)V"⟩ ∈ mm_tbl := mm_tb (j := 926) (by decide +kernel)
theorem mm_wc119 : Cond.code ⟨"PlainPacks$Pieces", "readMore", "(I)I"⟩ prog_6_method_4_code 6 (some .int) ∈ mm_tbl := mm_tb4 (j := 211) rfl
theorem mm_ws119 : tables_1[930]? = some (.instanceMethod ⟨"PlainPacks$Pieces", "readMore", "(I)I"⟩) := by decide +kernel
theorem mm_we119 : Cond.selects "PlainPacks$Pieces" ⟨"PlainPacks$Pieces", "readMore", "(I)I"⟩ ⟨"PlainPacks$Pieces", "readMore", "(I)I"⟩ ∈ mm_tbl := mm_tbF (List.mem_append_left _ (List.mem_of_getElem? (i := 17) (by decide +kernel)))
theorem mm_wc120 : Cond.code ⟨"PlainPacks$Pieces", "putPlain", "(J)V"⟩ prog_6_method_5_code 5 none ∈ mm_tbl := mm_tb4 (j := 216) rfl
theorem mm_ws120 : tables_1[935]? = some (.instanceMethod ⟨"PlainPacks$Pieces", "putPlain", "(J)V"⟩) := by decide +kernel
theorem mm_we120 : Cond.selects "PlainPacks$Pieces" ⟨"PlainPacks$Pieces", "putPlain", "(J)V"⟩ ⟨"PlainPacks$Pieces", "putPlain", "(J)V"⟩ ∈ mm_tbl := mm_tbF (List.mem_append_left _ (List.mem_of_getElem? (i := 18) (by decide +kernel)))
theorem mm_wc121 : Cond.code ⟨"PlainPacks$Pieces", "readFrame", "()V"⟩ prog_6_method_6_code 7 none ∈ mm_tbl := mm_tb4 (j := 223) rfl
theorem mm_ws121 : tables_1[941]? = some (.instanceMethod ⟨"PlainPacks$Pieces", "readFrame", "()V"⟩) := by decide +kernel
theorem mm_we121 : Cond.selects "PlainPacks$Pieces" ⟨"PlainPacks$Pieces", "readFrame", "()V"⟩ ⟨"PlainPacks$Pieces", "readFrame", "()V"⟩ ∈ mm_tbl := mm_tb (j := 942) (by decide +kernel)
theorem mm_wc122 : Cond.code ⟨"PlainPacks$Pieces", "readFrameHead", "()J"⟩ prog_6_method_7_code 7 (some .long) ∈ mm_tbl := mm_tb4 (j := 227) rfl
theorem mm_ws122 : tables_1[946]? = some (.instanceMethod ⟨"PlainPacks$Pieces", "readFrameHead", "()J"⟩) := by decide +kernel
theorem mm_we122 : Cond.selects "PlainPacks$Pieces" ⟨"PlainPacks$Pieces", "readFrameHead", "()J"⟩ ⟨"PlainPacks$Pieces", "readFrameHead", "()J"⟩ ∈ mm_tbl := mm_tbF (List.mem_append_left _ (List.mem_of_getElem? (i := 19) (by decide +kernel)))
theorem mm_wc123 : Cond.code ⟨"PlainPacks$Pieces", "readFrameBlock", "(J)V"⟩ prog_6_method_8_code 8 none ∈ mm_tbl := mm_tb5 (j := 7) rfl
theorem mm_ws123 : tables_1[966]? = some (.instanceMethod ⟨"PlainPacks$Pieces", "readFrameBlock", "(J)V"⟩) := by decide +kernel
theorem mm_we123 : Cond.selects "PlainPacks$Pieces" ⟨"PlainPacks$Pieces", "readFrameBlock", "(J)V"⟩ ⟨"PlainPacks$Pieces", "readFrameBlock", "(J)V"⟩ ∈ mm_tbl := mm_tbF (List.mem_append_left _ (List.mem_of_getElem? (i := 20) (by decide +kernel)))
theorem mm_wc124 : Cond.code ⟨"PlainPacks$Pieces", "readTags", "()V"⟩ prog_6_method_9_code 8 none ∈ mm_tbl := mm_tb5 (j := 21) rfl
theorem mm_ws124 : tables_1[979]? = some (.instanceMethod ⟨"PlainPacks$Pieces", "readTags", "()V"⟩) := by decide +kernel
theorem mm_we124 : Cond.selects "PlainPacks$Pieces" ⟨"PlainPacks$Pieces", "readTags", "()V"⟩ ⟨"PlainPacks$Pieces", "readTags", "()V"⟩ ∈ mm_tbl := mm_tb (j := 980) (by decide +kernel)
theorem mm_wc125 : Cond.code ⟨"PlainPacks$Pieces", "readTagCount", "()J"⟩ prog_6_method_10_code 6 (some .long) ∈ mm_tbl := mm_tb5 (j := 25) rfl
theorem mm_ws125 : tables_1[984]? = some (.instanceMethod ⟨"PlainPacks$Pieces", "readTagCount", "()J"⟩) := by decide +kernel
theorem mm_we125 : Cond.selects "PlainPacks$Pieces" ⟨"PlainPacks$Pieces", "readTagCount", "()J"⟩ ⟨"PlainPacks$Pieces", "readTagCount", "()J"⟩ ∈ mm_tbl := mm_tbF (List.mem_append_left _ (List.mem_of_getElem? (i := 21) (by decide +kernel)))
theorem mm_wc126 : Cond.code ⟨"PlainPacks$Pieces", "readTagDistance", "(I)J"⟩ prog_6_method_11_code 2 (some .long) ∈ mm_tbl := mm_tb5 (j := 31) rfl
theorem mm_ws126 : tables_1[990]? = some (.instanceMethod ⟨"PlainPacks$Pieces", "readTagDistance", "(I)J"⟩) := by decide +kernel
theorem mm_we126 : Cond.selects "PlainPacks$Pieces" ⟨"PlainPacks$Pieces", "readTagDistance", "(I)J"⟩ ⟨"PlainPacks$Pieces", "readTagDistance", "(I)J"⟩ ∈ mm_tbl := mm_tbF (List.mem_append_left _ (List.mem_of_getElem? (i := 22) (by decide +kernel)))
theorem mm_wc127 : Cond.code ⟨"PlainPacks$Pieces", "writeRuns", "()V"⟩ prog_6_method_12_code 4 none ∈ mm_tbl := mm_tb5 (j := 194) rfl
theorem mm_ws127 : tables_1[1152]? = some (.instanceMethod ⟨"PlainPacks$Pieces", "writeRuns", "()V"⟩) := by decide +kernel
theorem mm_we127 : Cond.selects "PlainPacks$Pieces" ⟨"PlainPacks$Pieces", "writeRuns", "()V"⟩ ⟨"PlainPacks$Pieces", "writeRuns", "()V"⟩ ∈ mm_tbl := mm_tb (j := 1153) (by decide +kernel)
theorem mm_wc128 : Cond.code ⟨"PlainPacks$Pieces", "runAt", "(II)I"⟩ prog_6_method_13_code 4 (some .int) ∈ mm_tbl := mm_tb5 (j := 198) rfl
theorem mm_ws128 : tables_1[1157]? = some (.instanceMethod ⟨"PlainPacks$Pieces", "runAt", "(II)I"⟩) := by decide +kernel
theorem mm_we128 : Cond.selects "PlainPacks$Pieces" ⟨"PlainPacks$Pieces", "runAt", "(II)I"⟩ ⟨"PlainPacks$Pieces", "runAt", "(II)I"⟩ ∈ mm_tbl := mm_tbF (List.mem_append_left _ (List.mem_of_getElem? (i := 43) (by decide +kernel)))
theorem mm_wc129 : Cond.code ⟨"PlainPacks$Pieces", "writePieces", "()V"⟩ prog_6_method_14_code 4 none ∈ mm_tbl := mm_tb6 (j := 64) rfl
theorem mm_ws129 : tables_1[1262]? = some (.instanceMethod ⟨"PlainPacks$Pieces", "writePieces", "()V"⟩) := by decide +kernel
theorem mm_we129 : Cond.selects "PlainPacks$Pieces" ⟨"PlainPacks$Pieces", "writePieces", "()V"⟩ ⟨"PlainPacks$Pieces", "writePieces", "()V"⟩ ∈ mm_tbl := mm_tb (j := 1263) (by decide +kernel)
theorem mm_wc130 : Cond.code ⟨"PlainPacks$Pieces", "writePiece", "(III)V"⟩ prog_6_method_15_code 4 none ∈ mm_tbl := mm_tb6 (j := 71) rfl
theorem mm_ws130 : tables_1[1270]? = some (.instanceMethod ⟨"PlainPacks$Pieces", "writePiece", "(III)V"⟩) := by decide +kernel
theorem mm_we130 : Cond.selects "PlainPacks$Pieces" ⟨"PlainPacks$Pieces", "writePiece", "(III)V"⟩ ⟨"PlainPacks$Pieces", "writePiece", "(III)V"⟩ ∈ mm_tbl := mm_tbF (List.mem_append_left _ (List.mem_of_getElem? (i := 52) (by decide +kernel)))
theorem mm_wc131 : Cond.code ⟨"PlainPacks$Pieces", "writePlainPart", "(III)V"⟩ prog_6_method_16_code 4 none ∈ mm_tbl := mm_tb6 (j := 76) rfl
theorem mm_ws131 : tables_1[1275]? = some (.instanceMethod ⟨"PlainPacks$Pieces", "writePlainPart", "(III)V"⟩) := by decide +kernel
theorem mm_we131 : Cond.selects "PlainPacks$Pieces" ⟨"PlainPacks$Pieces", "writePlainPart", "(III)V"⟩ ⟨"PlainPacks$Pieces", "writePlainPart", "(III)V"⟩ ∈ mm_tbl := mm_tbF (List.mem_append_left _ (List.mem_of_getElem? (i := 53) (by decide +kernel)))
theorem mm_wc132 : Cond.code ⟨"PlainPacks$Pieces", "writeMore", "(I)V"⟩ prog_6_method_17_code 3 none ∈ mm_tbl := mm_tb6 (j := 80) rfl
theorem mm_ws132 : tables_1[1279]? = some (.instanceMethod ⟨"PlainPacks$Pieces", "writeMore", "(I)V"⟩) := by decide +kernel
theorem mm_we132 : Cond.selects "PlainPacks$Pieces" ⟨"PlainPacks$Pieces", "writeMore", "(I)V"⟩ ⟨"PlainPacks$Pieces", "writeMore", "(I)V"⟩ ∈ mm_tbl := mm_tbF (List.mem_append_left _ (List.mem_of_getElem? (i := 54) (by decide +kernel)))
theorem mm_wc133 : Cond.code ⟨"PlainPacks$Pieces", "writeFrame", "()V"⟩ prog_6_method_18_code 1 none ∈ mm_tbl := mm_tb6 (j := 85) rfl
theorem mm_ws133 : tables_1[1283]? = some (.instanceMethod ⟨"PlainPacks$Pieces", "writeFrame", "()V"⟩) := by decide +kernel
theorem mm_we133 : Cond.selects "PlainPacks$Pieces" ⟨"PlainPacks$Pieces", "writeFrame", "()V"⟩ ⟨"PlainPacks$Pieces", "writeFrame", "()V"⟩ ∈ mm_tbl := mm_tb (j := 1284) (by decide +kernel)
theorem mm_wc134 : Cond.code ⟨"PlainPacks$Pieces", "writeFrameBlock", "()V"⟩ prog_6_method_19_code 5 none ∈ mm_tbl := mm_tb6 (j := 89) rfl
theorem mm_ws134 : tables_1[1288]? = some (.instanceMethod ⟨"PlainPacks$Pieces", "writeFrameBlock", "()V"⟩) := by decide +kernel
theorem mm_we134 : Cond.selects "PlainPacks$Pieces" ⟨"PlainPacks$Pieces", "writeFrameBlock", "()V"⟩ ⟨"PlainPacks$Pieces", "writeFrameBlock", "()V"⟩ ∈ mm_tbl := mm_tbF (List.mem_append_left _ (List.mem_of_getElem? (i := 55) (by decide +kernel)))
theorem mm_wc135 : Cond.code ⟨"PlainPacks$Pieces", "writeTags", "()V"⟩ prog_6_method_20_code 5 none ∈ mm_tbl := mm_tb6 (j := 95) rfl
theorem mm_ws135 : tables_1[1293]? = some (.instanceMethod ⟨"PlainPacks$Pieces", "writeTags", "()V"⟩) := by decide +kernel
theorem mm_we135 : Cond.selects "PlainPacks$Pieces" ⟨"PlainPacks$Pieces", "writeTags", "()V"⟩ ⟨"PlainPacks$Pieces", "writeTags", "()V"⟩ ∈ mm_tbl := mm_tb (j := 1294) (by decide +kernel)
theorem mm_wc136 : Cond.code ⟨"PlainPacks$Pieces", "writePlainTag", "(II)V"⟩ prog_6_method_21_code 4 none ∈ mm_tbl := mm_tb6 (j := 99) rfl
theorem mm_ws136 : tables_1[1298]? = some (.instanceMethod ⟨"PlainPacks$Pieces", "writePlainTag", "(II)V"⟩) := by decide +kernel
theorem mm_we136 : Cond.selects "PlainPacks$Pieces" ⟨"PlainPacks$Pieces", "writePlainTag", "(II)V"⟩ ⟨"PlainPacks$Pieces", "writePlainTag", "(II)V"⟩ ∈ mm_tbl := mm_tbF (List.mem_append_left _ (List.mem_of_getElem? (i := 56) (by decide +kernel)))
theorem mm_wc137 : Cond.code ⟨"PlainPacks$Sorted", "readSorted", "()V"⟩ prog_8_method_2_code 8 none ∈ mm_tbl := mm_tb5 (j := 35) rfl
theorem mm_ws137 : tables_1[993]? = some (.instanceMethod ⟨"PlainPacks$Sorted", "readSorted", "()V"⟩) := by decide +kernel
theorem mm_we137 : Cond.selects "PlainPacks$Sorted" ⟨"PlainPacks$Sorted", "readSorted", "()V"⟩ ⟨"PlainPacks$Sorted", "readSorted", "()V"⟩ ∈ mm_tbl := mm_tb (j := 994) (by decide +kernel)
theorem mm_wc138 : Cond.code ⟨"PlainPacks$Sorted", "readBlock", "()V"⟩ prog_8_method_3_code 3 none ∈ mm_tbl := mm_tb5 (j := 45) rfl
theorem mm_ws138 : tables_1[1004]? = some (.instanceMethod ⟨"PlainPacks$Sorted", "readBlock", "()V"⟩) := by decide +kernel
theorem mm_we138 : Cond.selects "PlainPacks$Sorted" ⟨"PlainPacks$Sorted", "readBlock", "()V"⟩ ⟨"PlainPacks$Sorted", "readBlock", "()V"⟩ ∈ mm_tbl := mm_tbF (List.mem_append_left _ (List.mem_of_getElem? (i := 23) (by decide +kernel)))
theorem mm_wc139 : Cond.code ⟨"PlainPacks$Sorted", "readOccurring", "()V"⟩ prog_8_method_4_code 5 none ∈ mm_tbl := mm_tb5 (j := 50) rfl
theorem mm_ws139 : tables_1[1009]? = some (.instanceMethod ⟨"PlainPacks$Sorted", "readOccurring", "()V"⟩) := by decide +kernel
theorem mm_we139 : Cond.selects "PlainPacks$Sorted" ⟨"PlainPacks$Sorted", "readOccurring", "()V"⟩ ⟨"PlainPacks$Sorted", "readOccurring", "()V"⟩ ∈ mm_tbl := mm_tbF (List.mem_append_left _ (List.mem_of_getElem? (i := 24) (by decide +kernel)))
theorem mm_wc140 : Cond.code ⟨"PlainPacks$Sorted", "readSelectors", "(I)V"⟩ prog_8_method_5_code 4 none ∈ mm_tbl := mm_tb5 (j := 54) rfl
theorem mm_ws140 : tables_1[1013]? = some (.instanceMethod ⟨"PlainPacks$Sorted", "readSelectors", "(I)V"⟩) := by decide +kernel
theorem mm_we140 : Cond.selects "PlainPacks$Sorted" ⟨"PlainPacks$Sorted", "readSelectors", "(I)V"⟩ ⟨"PlainPacks$Sorted", "readSelectors", "(I)V"⟩ ∈ mm_tbl := mm_tbF (List.mem_append_left _ (List.mem_of_getElem? (i := 25) (by decide +kernel)))
theorem mm_wc141 : Cond.code ⟨"PlainPacks$Sorted", "moveToFront", "([II)V"⟩ prog_8_method_6_code 4 none ∈ mm_tbl := mm_tb5 (j := 57) rfl
theorem mm_ws141 : tables_1[1016]? = some (.static ⟨"PlainPacks$Sorted", "moveToFront", "([II)V"⟩) := by decide +kernel
theorem mm_wc142 : Cond.code ⟨"PlainPacks$Sorted", "readTable", "(LPlainPacks$Codes;)V"⟩ prog_8_method_7_code 5 none ∈ mm_tbl := mm_tb5 (j := 61) rfl
theorem mm_ws142 : tables_1[1020]? = some (.instanceMethod ⟨"PlainPacks$Sorted", "readTable", "(LPlainPacks$Codes;)V"⟩) := by decide +kernel
theorem mm_we142 : Cond.selects "PlainPacks$Sorted" ⟨"PlainPacks$Sorted", "readTable", "(LPlainPacks$Codes;)V"⟩ ⟨"PlainPacks$Sorted", "readTable", "(LPlainPacks$Codes;)V"⟩ ∈ mm_tbl := mm_tbF (List.mem_append_left _ (List.mem_of_getElem? (i := 26) (by decide +kernel)))
theorem mm_wc143 : Cond.code ⟨"PlainPacks$Sorted", "readLetters", "()V"⟩ prog_8_method_8_code 7 none ∈ mm_tbl := mm_tb5 (j := 70) rfl
theorem mm_ws143 : tables_1[1029]? = some (.instanceMethod ⟨"PlainPacks$Sorted", "readLetters", "()V"⟩) := by decide +kernel
theorem mm_we143 : Cond.selects "PlainPacks$Sorted" ⟨"PlainPacks$Sorted", "readLetters", "()V"⟩ ⟨"PlainPacks$Sorted", "readLetters", "()V"⟩ ∈ mm_tbl := mm_tbF (List.mem_append_left _ (List.mem_of_getElem? (i := 27) (by decide +kernel)))
theorem mm_wc144 : Cond.code ⟨"PlainPacks$Sorted", "addBytes", "(IJ)V"⟩ prog_8_method_9_code 5 none ∈ mm_tbl := mm_tb5 (j := 76) rfl
theorem mm_ws144 : tables_1[1035]? = some (.instanceMethod ⟨"PlainPacks$Sorted", "addBytes", "(IJ)V"⟩) := by decide +kernel
theorem mm_we144 : Cond.selects "PlainPacks$Sorted" ⟨"PlainPacks$Sorted", "addBytes", "(IJ)V"⟩ ⟨"PlainPacks$Sorted", "addBytes", "(IJ)V"⟩ ∈ mm_tbl := mm_tbF (List.mem_append_left _ (List.mem_of_getElem? (i := 28) (by decide +kernel)))
theorem mm_wc145 : Cond.code ⟨"PlainPacks$Sorted", "sortSteps", "()V"⟩ prog_8_method_10_code 3 none ∈ mm_tbl := mm_tb5 (j := 80) rfl
theorem mm_ws145 : tables_1[1039]? = some (.instanceMethod ⟨"PlainPacks$Sorted", "sortSteps", "()V"⟩) := by decide +kernel
theorem mm_we145 : Cond.selects "PlainPacks$Sorted" ⟨"PlainPacks$Sorted", "sortSteps", "()V"⟩ ⟨"PlainPacks$Sorted", "sortSteps", "()V"⟩ ∈ mm_tbl := mm_tbF (List.mem_append_left _ (List.mem_of_getElem? (i := 29) (by decide +kernel)))
theorem mm_wc146 : Cond.code ⟨"PlainPacks$Sorted", "putText", "()V"⟩ prog_8_method_11_code 7 none ∈ mm_tbl := mm_tb5 (j := 85) rfl
theorem mm_ws146 : tables_1[1044]? = some (.instanceMethod ⟨"PlainPacks$Sorted", "putText", "()V"⟩) := by decide +kernel
theorem mm_we146 : Cond.selects "PlainPacks$Sorted" ⟨"PlainPacks$Sorted", "putText", "()V"⟩ ⟨"PlainPacks$Sorted", "putText", "()V"⟩ ∈ mm_tbl := mm_tbF (List.mem_append_left _ (List.mem_of_getElem? (i := 30) (by decide +kernel)))
theorem mm_wc147 : Cond.code ⟨"PlainPacks$Sorted", "writeSorted", "()V"⟩ prog_8_method_12_code 2 none ∈ mm_tbl := mm_tb6 (j := 103) rfl
theorem mm_ws147 : tables_1[1301]? = some (.instanceMethod ⟨"PlainPacks$Sorted", "writeSorted", "()V"⟩) := by decide +kernel
theorem mm_we147 : Cond.selects "PlainPacks$Sorted" ⟨"PlainPacks$Sorted", "writeSorted", "()V"⟩ ⟨"PlainPacks$Sorted", "writeSorted", "()V"⟩ ∈ mm_tbl := mm_tb (j := 1302) (by decide +kernel)
theorem mm_wc148 : Cond.code ⟨"PlainPacks$Sorted", "makeText", "()V"⟩ prog_8_method_13_code 4 none ∈ mm_tbl := mm_tb6 (j := 108) rfl
theorem mm_ws148 : tables_1[1307]? = some (.instanceMethod ⟨"PlainPacks$Sorted", "makeText", "()V"⟩) := by decide +kernel
theorem mm_we148 : Cond.selects "PlainPacks$Sorted" ⟨"PlainPacks$Sorted", "makeText", "()V"⟩ ⟨"PlainPacks$Sorted", "makeText", "()V"⟩ ∈ mm_tbl := mm_tbF (List.mem_append_left _ (List.mem_of_getElem? (i := 57) (by decide +kernel)))
theorem mm_wc149 : Cond.code ⟨"PlainPacks$Sorted", "addText", "(II)V"⟩ prog_8_method_14_code 4 none ∈ mm_tbl := mm_tb6 (j := 112) rfl
theorem mm_ws149 : tables_1[1311]? = some (.instanceMethod ⟨"PlainPacks$Sorted", "addText", "(II)V"⟩) := by decide +kernel
theorem mm_we149 : Cond.selects "PlainPacks$Sorted" ⟨"PlainPacks$Sorted", "addText", "(II)V"⟩ ⟨"PlainPacks$Sorted", "addText", "(II)V"⟩ ∈ mm_tbl := mm_tbF (List.mem_append_left _ (List.mem_of_getElem? (i := 58) (by decide +kernel)))
theorem mm_wc150 : Cond.code ⟨"PlainPacks$Sorted", "makeLetters", "()V"⟩ prog_8_method_15_code 5 none ∈ mm_tbl := mm_tb6 (j := 116) rfl
theorem mm_ws150 : tables_1[1315]? = some (.instanceMethod ⟨"PlainPacks$Sorted", "makeLetters", "()V"⟩) := by decide +kernel
theorem mm_we150 : Cond.selects "PlainPacks$Sorted" ⟨"PlainPacks$Sorted", "makeLetters", "()V"⟩ ⟨"PlainPacks$Sorted", "makeLetters", "()V"⟩ ∈ mm_tbl := mm_tbF (List.mem_append_left _ (List.mem_of_getElem? (i := 59) (by decide +kernel)))
theorem mm_wc151 : Cond.code ⟨"PlainPacks$Sorted", "listOccurring", "()V"⟩ prog_8_method_16_code 2 none ∈ mm_tbl := mm_tb6 (j := 138) rfl
theorem mm_ws151 : tables_1[1337]? = some (.instanceMethod ⟨"PlainPacks$Sorted", "listOccurring", "()V"⟩) := by decide +kernel
theorem mm_we151 : Cond.selects "PlainPacks$Sorted" ⟨"PlainPacks$Sorted", "listOccurring", "()V"⟩ ⟨"PlainPacks$Sorted", "listOccurring", "()V"⟩ ∈ mm_tbl := mm_tbF (List.mem_append_left _ (List.mem_of_getElem? (i := 63) (by decide +kernel)))
theorem mm_wc152 : Cond.code ⟨"PlainPacks$Sorted", "placeInRow", "(I)I"⟩ prog_8_method_17_code 3 (some .int) ∈ mm_tbl := mm_tb6 (j := 150) rfl
theorem mm_ws152 : tables_1[1349]? = some (.instanceMethod ⟨"PlainPacks$Sorted", "placeInRow", "(I)I"⟩) := by decide +kernel
theorem mm_we152 : Cond.selects "PlainPacks$Sorted" ⟨"PlainPacks$Sorted", "placeInRow", "(I)I"⟩ ⟨"PlainPacks$Sorted", "placeInRow", "(I)I"⟩ ∈ mm_tbl := mm_tbF (List.mem_append_left _ (List.mem_of_getElem? (i := 66) (by decide +kernel)))
theorem mm_wc153 : Cond.code ⟨"PlainPacks$Sorted", "addLetter", "(I)V"⟩ prog_8_method_18_code 2 none ∈ mm_tbl := mm_tb6 (j := 146) rfl
theorem mm_ws153 : tables_1[1345]? = some (.instanceMethod ⟨"PlainPacks$Sorted", "addLetter", "(I)V"⟩) := by decide +kernel
theorem mm_we153 : Cond.selects "PlainPacks$Sorted" ⟨"PlainPacks$Sorted", "addLetter", "(I)V"⟩ ⟨"PlainPacks$Sorted", "addLetter", "(I)V"⟩ ∈ mm_tbl := mm_tbF (List.mem_append_left _ (List.mem_of_getElem? (i := 65) (by decide +kernel)))
theorem mm_wc154 : Cond.code ⟨"PlainPacks$Sorted", "closeRun", "()V"⟩ prog_8_method_19_code 2 none ∈ mm_tbl := mm_tb6 (j := 142) rfl
theorem mm_ws154 : tables_1[1341]? = some (.instanceMethod ⟨"PlainPacks$Sorted", "closeRun", "()V"⟩) := by decide +kernel
theorem mm_we154 : Cond.selects "PlainPacks$Sorted" ⟨"PlainPacks$Sorted", "closeRun", "()V"⟩ ⟨"PlainPacks$Sorted", "closeRun", "()V"⟩ ∈ mm_tbl := mm_tbF (List.mem_append_left _ (List.mem_of_getElem? (i := 64) (by decide +kernel)))
theorem mm_wc155 : Cond.code ⟨"PlainPacks$Sorted", "writeBlock", "(I)V"⟩ prog_8_method_20_code 6 none ∈ mm_tbl := mm_tb6 (j := 154) rfl
theorem mm_ws155 : tables_1[1353]? = some (.instanceMethod ⟨"PlainPacks$Sorted", "writeBlock", "(I)V"⟩) := by decide +kernel
theorem mm_we155 : Cond.selects "PlainPacks$Sorted" ⟨"PlainPacks$Sorted", "writeBlock", "(I)V"⟩ ⟨"PlainPacks$Sorted", "writeBlock", "(I)V"⟩ ∈ mm_tbl := mm_tbF (List.mem_append_left _ (List.mem_of_getElem? (i := 67) (by decide +kernel)))
theorem mm_wc156 : Cond.code ⟨"PlainPacks$Sorted", "writeOccurring", "()V"⟩ prog_8_method_21_code 3 none ∈ mm_tbl := mm_tb6 (j := 160) rfl
theorem mm_ws156 : tables_1[1359]? = some (.instanceMethod ⟨"PlainPacks$Sorted", "writeOccurring", "()V"⟩) := by decide +kernel
theorem mm_we156 : Cond.selects "PlainPacks$Sorted" ⟨"PlainPacks$Sorted", "writeOccurring", "()V"⟩ ⟨"PlainPacks$Sorted", "writeOccurring", "()V"⟩ ∈ mm_tbl := mm_tbF (List.mem_append_left _ (List.mem_of_getElem? (i := 68) (by decide +kernel)))
theorem mm_wc157 : Cond.code ⟨"PlainPacks$Sorted", "anyOfSixteen", "(I)Z"⟩ prog_8_method_22_code 4 (some .boolean) ∈ mm_tbl := mm_tb6 (j := 164) rfl
theorem mm_ws157 : tables_1[1363]? = some (.instanceMethod ⟨"PlainPacks$Sorted", "anyOfSixteen", "(I)Z"⟩) := by decide +kernel
theorem mm_we157 : Cond.selects "PlainPacks$Sorted" ⟨"PlainPacks$Sorted", "anyOfSixteen", "(I)Z"⟩ ⟨"PlainPacks$Sorted", "anyOfSixteen", "(I)Z"⟩ ∈ mm_tbl := mm_tbF (List.mem_append_left _ (List.mem_of_getElem? (i := 69) (by decide +kernel)))
theorem mm_wc158 : Cond.code ⟨"PlainPacks$Chances", "begin", "()V"⟩ prog_3_method_2_code 1 none ∈ mm_tbl := mm_tb5 (j := 108) rfl
theorem mm_ws158 : tables_1[1067]? = some (.instanceMethod ⟨"PlainPacks$Chances", "begin", "()V"⟩) := by decide +kernel
theorem mm_we158 : Cond.selects "PlainPacks$Chances" ⟨"PlainPacks$Chances", "begin", "()V"⟩ ⟨"PlainPacks$Chances", "begin", "()V"⟩ ∈ mm_tbl := mm_tbF (List.mem_append_left _ (List.mem_of_getElem? (i := 32) (by decide +kernel)))
theorem mm_wc159 : Cond.code ⟨"PlainPacks$Chances", "readChances", "()V"⟩ prog_3_method_3_code 4 none ∈ mm_tbl := mm_tb5 (j := 95) rfl
theorem mm_ws159 : tables_1[1053]? = some (.instanceMethod ⟨"PlainPacks$Chances", "readChances", "()V"⟩) := by decide +kernel
theorem mm_we159 : Cond.selects "PlainPacks$Chances" ⟨"PlainPacks$Chances", "readChances", "()V"⟩ ⟨"PlainPacks$Chances", "readChances", "()V"⟩ ∈ mm_tbl := mm_tb (j := 1054) (by decide +kernel)
theorem mm_wc160 : Cond.code ⟨"PlainPacks$Chances", "readHead", "()V"⟩ prog_3_method_4_code 2 none ∈ mm_tbl := mm_tb5 (j := 99) rfl
theorem mm_ws160 : tables_1[1058]? = some (.instanceMethod ⟨"PlainPacks$Chances", "readHead", "()V"⟩) := by decide +kernel
theorem mm_we160 : Cond.selects "PlainPacks$Chances" ⟨"PlainPacks$Chances", "readHead", "()V"⟩ ⟨"PlainPacks$Chances", "readHead", "()V"⟩ ∈ mm_tbl := mm_tbF (List.mem_append_left _ (List.mem_of_getElem? (i := 31) (by decide +kernel)))
theorem mm_wc161 : Cond.code ⟨"PlainPacks$Chances", "bit", "(I)I"⟩ prog_3_method_5_code 6 (some .int) ∈ mm_tbl := mm_tb5 (j := 115) rfl
theorem mm_ws161 : tables_1[1074]? = some (.instanceMethod ⟨"PlainPacks$Chances", "bit", "(I)I"⟩) := by decide +kernel
theorem mm_we161 : Cond.selects "PlainPacks$Chances" ⟨"PlainPacks$Chances", "bit", "(I)I"⟩ ⟨"PlainPacks$Chances", "bit", "(I)I"⟩ ∈ mm_tbl := mm_tbF (List.mem_append_left _ (List.mem_of_getElem? (i := 33) (by decide +kernel)))
theorem mm_wc162 : Cond.code ⟨"PlainPacks$Chances", "plainBit", "()I"⟩ prog_3_method_6_code 2 (some .int) ∈ mm_tbl := mm_tb5 (j := 149) rfl
theorem mm_ws162 : tables_1[1108]? = some (.instanceMethod ⟨"PlainPacks$Chances", "plainBit", "()I"⟩) := by decide +kernel
theorem mm_we162 : Cond.selects "PlainPacks$Chances" ⟨"PlainPacks$Chances", "plainBit", "()I"⟩ ⟨"PlainPacks$Chances", "plainBit", "()I"⟩ ∈ mm_tbl := mm_tbF (List.mem_append_left _ (List.mem_of_getElem? (i := 40) (by decide +kernel)))
theorem mm_wc163 : Cond.code ⟨"PlainPacks$Chances", "tree", "(II)I"⟩ prog_3_method_7_code 5 (some .int) ∈ mm_tbl := mm_tb5 (j := 135) rfl
theorem mm_ws163 : tables_1[1094]? = some (.instanceMethod ⟨"PlainPacks$Chances", "tree", "(II)I"⟩) := by decide +kernel
theorem mm_we163 : Cond.selects "PlainPacks$Chances" ⟨"PlainPacks$Chances", "tree", "(II)I"⟩ ⟨"PlainPacks$Chances", "tree", "(II)I"⟩ ∈ mm_tbl := mm_tbF (List.mem_append_left _ (List.mem_of_getElem? (i := 37) (by decide +kernel)))
theorem mm_wc164 : Cond.code ⟨"PlainPacks$Chances", "turnedTree", "(II)I"⟩ prog_3_method_8_code 7 (some .int) ∈ mm_tbl := mm_tb5 (j := 145) rfl
theorem mm_ws164 : tables_1[1104]? = some (.instanceMethod ⟨"PlainPacks$Chances", "turnedTree", "(II)I"⟩) := by decide +kernel
theorem mm_we164 : Cond.selects "PlainPacks$Chances" ⟨"PlainPacks$Chances", "turnedTree", "(II)I"⟩ ⟨"PlainPacks$Chances", "turnedTree", "(II)I"⟩ ∈ mm_tbl := mm_tbF (List.mem_append_left _ (List.mem_of_getElem? (i := 39) (by decide +kernel)))
theorem mm_wc165 : Cond.code ⟨"PlainPacks$Chances", "readByte", "()V"⟩ prog_3_method_9_code 11 none ∈ mm_tbl := mm_tb5 (j := 122) rfl
theorem mm_ws165 : tables_1[1081]? = some (.instanceMethod ⟨"PlainPacks$Chances", "readByte", "()V"⟩) := by decide +kernel
theorem mm_we165 : Cond.selects "PlainPacks$Chances" ⟨"PlainPacks$Chances", "readByte", "()V"⟩ ⟨"PlainPacks$Chances", "readByte", "()V"⟩ ∈ mm_tbl := mm_tbF (List.mem_append_left _ (List.mem_of_getElem? (i := 34) (by decide +kernel)))
theorem mm_wc166 : Cond.code ⟨"PlainPacks$Chances", "readMatch", "(I)Z"⟩ prog_3_method_10_code 5 (some .boolean) ∈ mm_tbl := mm_tb5 (j := 127) rfl
theorem mm_ws166 : tables_1[1086]? = some (.instanceMethod ⟨"PlainPacks$Chances", "readMatch", "(I)Z"⟩) := by decide +kernel
theorem mm_we166 : Cond.selects "PlainPacks$Chances" ⟨"PlainPacks$Chances", "readMatch", "(I)Z"⟩ ⟨"PlainPacks$Chances", "readMatch", "(I)Z"⟩ ∈ mm_tbl := mm_tbF (List.mem_append_left _ (List.mem_of_getElem? (i := 35) (by decide +kernel)))
theorem mm_wc167 : Cond.code ⟨"PlainPacks$Chances", "readRepeat", "(I)V"⟩ prog_3_method_11_code 4 none ∈ mm_tbl := mm_tb5 (j := 155) rfl
theorem mm_ws167 : tables_1[1114]? = some (.instanceMethod ⟨"PlainPacks$Chances", "readRepeat", "(I)V"⟩) := by decide +kernel
theorem mm_we167 : Cond.selects "PlainPacks$Chances" ⟨"PlainPacks$Chances", "readRepeat", "(I)V"⟩ ⟨"PlainPacks$Chances", "readRepeat", "(I)V"⟩ ∈ mm_tbl := mm_tbF (List.mem_append_left _ (List.mem_of_getElem? (i := 41) (by decide +kernel)))
theorem mm_wc168 : Cond.code ⟨"PlainPacks$Chances", "bringToFront", "()V"⟩ prog_3_method_12_code 2 none ∈ mm_tbl := mm_tb5 (j := 159) rfl
theorem mm_ws168 : tables_1[1118]? = some (.instanceMethod ⟨"PlainPacks$Chances", "bringToFront", "()V"⟩) := by decide +kernel
theorem mm_we168 : Cond.selects "PlainPacks$Chances" ⟨"PlainPacks$Chances", "bringToFront", "()V"⟩ ⟨"PlainPacks$Chances", "bringToFront", "()V"⟩ ∈ mm_tbl := mm_tbF (List.mem_append_left _ (List.mem_of_getElem? (i := 42) (by decide +kernel)))
theorem mm_wc169 : Cond.code ⟨"PlainPacks$Chances", "readLength", "(II)I"⟩ prog_3_method_13_code 4 (some .int) ∈ mm_tbl := mm_tb5 (j := 131) rfl
theorem mm_ws169 : tables_1[1090]? = some (.instanceMethod ⟨"PlainPacks$Chances", "readLength", "(II)I"⟩) := by decide +kernel
theorem mm_we169 : Cond.selects "PlainPacks$Chances" ⟨"PlainPacks$Chances", "readLength", "(II)I"⟩ ⟨"PlainPacks$Chances", "readLength", "(II)I"⟩ ∈ mm_tbl := mm_tbF (List.mem_append_left _ (List.mem_of_getElem? (i := 36) (by decide +kernel)))
theorem mm_wc170 : Cond.code ⟨"PlainPacks$Chances", "readDistance", "(I)J"⟩ prog_3_method_14_code 7 (some .long) ∈ mm_tbl := mm_tb5 (j := 139) rfl
theorem mm_ws170 : tables_1[1098]? = some (.instanceMethod ⟨"PlainPacks$Chances", "readDistance", "(I)J"⟩) := by decide +kernel
theorem mm_we170 : Cond.selects "PlainPacks$Chances" ⟨"PlainPacks$Chances", "readDistance", "(I)J"⟩ ⟨"PlainPacks$Chances", "readDistance", "(I)J"⟩ ∈ mm_tbl := mm_tbF (List.mem_append_left _ (List.mem_of_getElem? (i := 38) (by decide +kernel)))
theorem mm_wc171 : Cond.code ⟨"PlainPacks$Chances", "writeChances", "()V"⟩ prog_3_method_15_code 7 none ∈ mm_tbl := mm_tb6 (j := 170) rfl
theorem mm_ws171 : tables_1[1368]? = some (.instanceMethod ⟨"PlainPacks$Chances", "writeChances", "()V"⟩) := by decide +kernel
theorem mm_we171 : Cond.selects "PlainPacks$Chances" ⟨"PlainPacks$Chances", "writeChances", "()V"⟩ ⟨"PlainPacks$Chances", "writeChances", "()V"⟩ ∈ mm_tbl := mm_tb (j := 1369) (by decide +kernel)
theorem mm_wc172 : Cond.code ⟨"PlainPacks$Chances", "writeBit", "(II)V"⟩ prog_3_method_16_code 6 none ∈ mm_tbl := mm_tb6 (j := 177) rfl
theorem mm_ws172 : tables_1[1376]? = some (.instanceMethod ⟨"PlainPacks$Chances", "writeBit", "(II)V"⟩) := by decide +kernel
theorem mm_we172 : Cond.selects "PlainPacks$Chances" ⟨"PlainPacks$Chances", "writeBit", "(II)V"⟩ ⟨"PlainPacks$Chances", "writeBit", "(II)V"⟩ ∈ mm_tbl := mm_tbF (List.mem_append_left _ (List.mem_of_getElem? (i := 70) (by decide +kernel)))
theorem mm_wc173 : Cond.code ⟨"PlainPacksModel", "thrown", "()I"⟩ prog_14_method_2_code 1 (some .int) ∈ mm_tbl := mm_tb7 (j := 188) rfl
theorem mm_ws173 : tables_1[1626]? = some (.instanceMethod ⟨"PlainPacksModel", "thrown", "()I"⟩) := by decide +kernel
theorem mm_we173 : Cond.selects "PlainPacksModel" ⟨"PlainPacksModel", "thrown", "()I"⟩ ⟨"PlainPacksModel", "thrown", "()I"⟩ ∈ mm_tbl := mm_tb (j := 1627) (by decide +kernel)
theorem mm_wc174 : Cond.code ⟨"PlainPacksModel", "good", "(Z)Z"⟩ prog_14_method_3_code 2 (some .boolean) ∈ mm_tbl := mm_tb7 (j := 196) rfl
theorem mm_ws174 : tables_1[1635]? = some (.instanceMethod ⟨"PlainPacksModel", "good", "(Z)Z"⟩) := by decide +kernel
theorem mm_we174 : Cond.selects "PlainPacksModel" ⟨"PlainPacksModel", "good", "(Z)Z"⟩ ⟨"PlainPacksModel", "good", "(Z)Z"⟩ ∈ mm_tbl := mm_tbF (List.mem_append_left _ (List.mem_of_getElem? (i := 75) (by decide +kernel)))
theorem mm_wc175 : Cond.code ⟨"PlainPacksModel", "feed", "(IIIII)I"⟩ prog_14_method_4_code 8 (some .int) ∈ mm_tbl := mm_tb7 (j := 192) rfl
theorem mm_ws175 : tables_1[1630]? = some (.instanceMethod ⟨"PlainPacksModel", "feed", "(IIIII)I"⟩) := by decide +kernel
theorem mm_we175 : Cond.selects "PlainPacksModel" ⟨"PlainPacksModel", "feed", "(IIIII)I"⟩ ⟨"PlainPacksModel", "feed", "(IIIII)I"⟩ ∈ mm_tbl := mm_tb (j := 1631) (by decide +kernel)
theorem mm_wc176 : Cond.code ⟨"PlainPacksModel", "end", "(I)V"⟩ prog_14_method_5_code 2 none ∈ mm_tbl := mm_tb7 (j := 200) rfl
theorem mm_ws176 : tables_1[1638]? = some (.instanceMethod ⟨"PlainPacksModel", "end", "(I)V"⟩) := by decide +kernel
theorem mm_we176 : Cond.selects "PlainPacksModel" ⟨"PlainPacksModel", "end", "(I)V"⟩ ⟨"PlainPacksModel", "end", "(I)V"⟩ ∈ mm_tbl := mm_tb (j := 1639) (by decide +kernel)
theorem mm_wc177 : Cond.code ⟨"PlainPacksModel", "alter", "(II)I"⟩ prog_14_method_6_code 4 (some .int) ∈ mm_tbl := mm_tb7 (j := 204) rfl
theorem mm_ws177 : tables_1[1642]? = some (.instanceMethod ⟨"PlainPacksModel", "alter", "(II)I"⟩) := by decide +kernel
theorem mm_we177 : Cond.selects "PlainPacksModel" ⟨"PlainPacksModel", "alter", "(II)I"⟩ ⟨"PlainPacksModel", "alter", "(II)I"⟩ ∈ mm_tbl := mm_tb (j := 1643) (by decide +kernel)
theorem mm_wc178 : Cond.code ⟨"PlainPacksModel", "turn", "()I"⟩ prog_14_method_7_code 2 (some .int) ∈ mm_tbl := mm_tb7 (j := 208) rfl
theorem mm_ws178 : tables_1[1646]? = some (.instanceMethod ⟨"PlainPacksModel", "turn", "()I"⟩) := by decide +kernel
theorem mm_we178 : Cond.selects "PlainPacksModel" ⟨"PlainPacksModel", "turn", "()I"⟩ ⟨"PlainPacksModel", "turn", "()I"⟩ ∈ mm_tbl := mm_tb (j := 1647) (by decide +kernel)
theorem mm_wc179 : Cond.code ⟨"PlainPacksModel", "count", "(I)I"⟩ prog_14_method_8_code 2 (some .int) ∈ mm_tbl := mm_tb7 (j := 212) rfl
theorem mm_ws179 : tables_1[1650]? = some (.instanceMethod ⟨"PlainPacksModel", "count", "(I)I"⟩) := by decide +kernel
theorem mm_we179 : Cond.selects "PlainPacksModel" ⟨"PlainPacksModel", "count", "(I)I"⟩ ⟨"PlainPacksModel", "count", "(I)I"⟩ ∈ mm_tbl := mm_tb (j := 1651) (by decide +kernel)
theorem mm_wc180 : Cond.code ⟨"PlainPacksModel", "out", "(I)I"⟩ prog_14_method_9_code 2 (some .int) ∈ mm_tbl := mm_tb7 (j := 216) rfl
theorem mm_ws180 : tables_1[1654]? = some (.instanceMethod ⟨"PlainPacksModel", "out", "(I)I"⟩) := by decide +kernel
theorem mm_we180 : Cond.selects "PlainPacksModel" ⟨"PlainPacksModel", "out", "(I)I"⟩ ⟨"PlainPacksModel", "out", "(I)I"⟩ ∈ mm_tbl := mm_tb (j := 1655) (by decide +kernel)
theorem mm_wc181 : Cond.code ⟨"PlainPacksModel", "told", "(I)I"⟩ prog_14_method_10_code 2 (some .int) ∈ mm_tbl := mm_tb7 (j := 220) rfl
theorem mm_ws181 : tables_1[1658]? = some (.instanceMethod ⟨"PlainPacksModel", "told", "(I)I"⟩) := by decide +kernel
theorem mm_we181 : Cond.selects "PlainPacksModel" ⟨"PlainPacksModel", "told", "(I)I"⟩ ⟨"PlainPacksModel", "told", "(I)I"⟩ ∈ mm_tbl := mm_tb (j := 1659) (by decide +kernel)
theorem mm_wc182 : Cond.code ⟨"PlainPacksModel", "crc", "([III)I"⟩ prog_14_method_11_code 6 (some .int) ∈ mm_tbl := mm_tb7 (j := 227) rfl
theorem mm_ws182 : tables_1[1666]? = some (.static ⟨"PlainPacksModel", "crc", "([III)I"⟩) := by decide +kernel
theorem mm_wc183 : Cond.code ⟨"PlainPacksModel", "crcHigh", "([III)I"⟩ prog_14_method_12_code 6 (some .int) ∈ mm_tbl := mm_tb7 (j := 231) rfl
theorem mm_ws183 : tables_1[1670]? = some (.static ⟨"PlainPacksModel", "crcHigh", "([III)I"⟩) := by decide +kernel
theorem mm_wc184 : Cond.code ⟨"PlainPacksModel", "adler", "([III)I"⟩ prog_14_method_13_code 6 (some .int) ∈ mm_tbl := mm_tb7 (j := 235) rfl
theorem mm_ws184 : tables_1[1674]? = some (.static ⟨"PlainPacksModel", "adler", "([III)I"⟩) := by decide +kernel
theorem mm_wc185 : Cond.code ⟨"PlainPacksModel", "left", "(II)I"⟩ prog_14_method_14_code 2 (some .int) ∈ mm_tbl := mm_tb8 (j := 13) rfl
theorem mm_ws185 : tables_1[1692]? = some (.static ⟨"PlainPacksModel", "left", "(II)I"⟩) := by decide +kernel
theorem mm_wc186 : Cond.code ⟨"PlainPacksModel", "word", "([II)I"⟩ prog_14_method_15_code 2 (some .int) ∈ mm_tbl := mm_tb8 (j := 7) rfl
theorem mm_ws186 : tables_1[1686]? = some (.static ⟨"PlainPacksModel", "word", "([II)I"⟩) := by decide +kernel
theorem mm_wc187 : Cond.code ⟨"PlainPacksModel", "lane", "(II)I"⟩ prog_14_method_16_code 2 (some .int) ∈ mm_tbl := mm_tb8 (j := 10) rfl
theorem mm_ws187 : tables_1[1689]? = some (.static ⟨"PlainPacksModel", "lane", "(II)I"⟩) := by decide +kernel
theorem mm_wc188 : Cond.code ⟨"PlainPacksModel", "xx", "([III)I"⟩ prog_14_method_17_code 10 (some .int) ∈ mm_tbl := mm_tb8 (j := 0) rfl
theorem mm_ws188 : tables_1[1679]? = some (.static ⟨"PlainPacksModel", "xx", "([III)I"⟩) := by decide +kernel
theorem mm_wc189 : Cond.code ⟨"PlainPacksModel", "sum", "(I)I"⟩ prog_14_method_18_code 2 (some .int) ∈ mm_tbl := mm_tb7 (j := 224) rfl
theorem mm_ws189 : tables_1[1662]? = some (.instanceMethod ⟨"PlainPacksModel", "sum", "(I)I"⟩) := by decide +kernel
theorem mm_we189 : Cond.selects "PlainPacksModel" ⟨"PlainPacksModel", "sum", "(I)I"⟩ ⟨"PlainPacksModel", "sum", "(I)I"⟩ ∈ mm_tbl := mm_tb (j := 1663) (by decide +kernel)
theorem mm_wc190 : Cond.code ⟨"PlainPacksModel", "bad", "()V"⟩ prog_14_method_19_code 1 none ∈ mm_tbl := mm_tb8 (j := 33) rfl
theorem mm_ws190 : tables_1[1712]? = some (.instanceMethod ⟨"PlainPacksModel", "bad", "()V"⟩) := by decide +kernel
theorem mm_we190 : Cond.selects "PlainPacksModel" ⟨"PlainPacksModel", "bad", "()V"⟩ ⟨"PlainPacksModel", "bad", "()V"⟩ ∈ mm_tbl := mm_tbF (List.mem_append_left _ (List.mem_of_getElem? (i := 78) (by decide +kernel)))
theorem mm_wc191 : Cond.code ⟨"PlainPacksModel", "next", "()I"⟩ prog_14_method_20_code 1 (some .int) ∈ mm_tbl := mm_tb8 (j := 29) rfl
theorem mm_ws191 : tables_1[1708]? = some (.instanceMethod ⟨"PlainPacksModel", "next", "()I"⟩) := by decide +kernel
theorem mm_we191 : Cond.selects "PlainPacksModel" ⟨"PlainPacksModel", "next", "()I"⟩ ⟨"PlainPacksModel", "next", "()I"⟩ ∈ mm_tbl := mm_tbF (List.mem_append_left _ (List.mem_of_getElem? (i := 77) (by decide +kernel)))
theorem mm_wc192 : Cond.code ⟨"PlainPacksModel", "want", "(I)V"⟩ prog_14_method_21_code 3 none ∈ mm_tbl := mm_tb8 (j := 115) rfl
theorem mm_ws192 : tables_1[1794]? = some (.instanceMethod ⟨"PlainPacksModel", "want", "(I)V"⟩) := by decide +kernel
theorem mm_we192 : Cond.selects "PlainPacksModel" ⟨"PlainPacksModel", "want", "(I)V"⟩ ⟨"PlainPacksModel", "want", "(I)V"⟩ ∈ mm_tbl := mm_tbF (List.mem_append_left _ (List.mem_of_getElem? (i := 98) (by decide +kernel)))
theorem mm_wc193 : Cond.code ⟨"PlainPacksModel", "low", "(I)J"⟩ prog_14_method_22_code 5 (some .long) ∈ mm_tbl := mm_tb8 (j := 57) rfl
theorem mm_ws193 : tables_1[1736]? = some (.instanceMethod ⟨"PlainPacksModel", "low", "(I)J"⟩) := by decide +kernel
theorem mm_we193 : Cond.selects "PlainPacksModel" ⟨"PlainPacksModel", "low", "(I)J"⟩ ⟨"PlainPacksModel", "low", "(I)J"⟩ ∈ mm_tbl := mm_tbF (List.mem_append_left _ (List.mem_of_getElem? (i := 84) (by decide +kernel)))
theorem mm_wc194 : Cond.code ⟨"PlainPacksModel", "put", "(I)Z"⟩ prog_14_method_23_code 2 (some .boolean) ∈ mm_tbl := mm_tb8 (j := 37) rfl
theorem mm_ws194 : tables_1[1716]? = some (.instanceMethod ⟨"PlainPacksModel", "put", "(I)Z"⟩) := by decide +kernel
theorem mm_we194 : Cond.selects "PlainPacksModel" ⟨"PlainPacksModel", "put", "(I)Z"⟩ ⟨"PlainPacksModel", "put", "(I)Z"⟩ ∈ mm_tbl := mm_tbF (List.mem_append_left _ (List.mem_of_getElem? (i := 79) (by decide +kernel)))
theorem mm_wc195 : Cond.code ⟨"PlainPacksModel", "pass", "(J)V"⟩ prog_14_method_24_code 6 none ∈ mm_tbl := mm_tb8 (j := 62) rfl
theorem mm_ws195 : tables_1[1741]? = some (.instanceMethod ⟨"PlainPacksModel", "pass", "(J)V"⟩) := by decide +kernel
theorem mm_we195 : Cond.selects "PlainPacksModel" ⟨"PlainPacksModel", "pass", "(J)V"⟩ ⟨"PlainPacksModel", "pass", "(J)V"⟩ ∈ mm_tbl := mm_tbF (List.mem_append_left _ (List.mem_of_getElem? (i := 85) (by decide +kernel)))
theorem mm_wc196 : Cond.code ⟨"PlainPacksModel", "copy", "(IJI)V"⟩ prog_14_method_25_code 7 none ∈ mm_tbl := mm_tb8 (j := 103) rfl
theorem mm_ws196 : tables_1[1782]? = some (.instanceMethod ⟨"PlainPacksModel", "copy", "(IJI)V"⟩) := by decide +kernel
theorem mm_we196 : Cond.selects "PlainPacksModel" ⟨"PlainPacksModel", "copy", "(IJI)V"⟩ ⟨"PlainPacksModel", "copy", "(IJI)V"⟩ ∈ mm_tbl := mm_tbF (List.mem_append_left _ (List.mem_of_getElem? (i := 95) (by decide +kernel)))
theorem mm_wc197 : Cond.code ⟨"PlainPacksModel", "bit", "()I"⟩ prog_14_method_26_code 1 (some .int) ∈ mm_tbl := mm_tb8 (j := 49) rfl
theorem mm_ws197 : tables_1[1728]? = some (.instanceMethod ⟨"PlainPacksModel", "bit", "()I"⟩) := by decide +kernel
theorem mm_we197 : Cond.selects "PlainPacksModel" ⟨"PlainPacksModel", "bit", "()I"⟩ ⟨"PlainPacksModel", "bit", "()I"⟩ ∈ mm_tbl := mm_tbF (List.mem_append_left _ (List.mem_of_getElem? (i := 82) (by decide +kernel)))
theorem mm_wc198 : Cond.code ⟨"PlainPacksModel", "number", "(I)J"⟩ prog_14_method_27_code 7 (some .long) ∈ mm_tbl := mm_tb8 (j := 45) rfl
theorem mm_ws198 : tables_1[1724]? = some (.instanceMethod ⟨"PlainPacksModel", "number", "(I)J"⟩) := by decide +kernel
theorem mm_we198 : Cond.selects "PlainPacksModel" ⟨"PlainPacksModel", "number", "(I)J"⟩ ⟨"PlainPacksModel", "number", "(I)J"⟩ ∈ mm_tbl := mm_tbF (List.mem_append_left _ (List.mem_of_getElem? (i := 81) (by decide +kernel)))
theorem mm_wc199 : Cond.code ⟨"PlainPacksModel", "assign", "(II)V"⟩ prog_14_method_28_code 6 none ∈ mm_tbl := mm_tb8 (j := 70) rfl
theorem mm_ws199 : tables_1[1749]? = some (.instanceMethod ⟨"PlainPacksModel", "assign", "(II)V"⟩) := by decide +kernel
theorem mm_we199 : Cond.selects "PlainPacksModel" ⟨"PlainPacksModel", "assign", "(II)V"⟩ ⟨"PlainPacksModel", "assign", "(II)V"⟩ ∈ mm_tbl := mm_tbF (List.mem_append_left _ (List.mem_of_getElem? (i := 87) (by decide +kernel)))
theorem mm_wc200 : Cond.code ⟨"PlainPacksModel", "taken", "(II)J"⟩ prog_14_method_29_code 6 (some .long) ∈ mm_tbl := mm_tb8 (j := 82) rfl
theorem mm_ws200 : tables_1[1761]? = some (.instanceMethod ⟨"PlainPacksModel", "taken", "(II)J"⟩) := by decide +kernel
theorem mm_we200 : Cond.selects "PlainPacksModel" ⟨"PlainPacksModel", "taken", "(II)J"⟩ ⟨"PlainPacksModel", "taken", "(II)J"⟩ ∈ mm_tbl := mm_tbF (List.mem_append_left _ (List.mem_of_getElem? (i := 90) (by decide +kernel)))
theorem mm_wc201 : Cond.code ⟨"PlainPacksModel", "isFit", "(IIZ)Z"⟩ prog_14_method_30_code 7 (some .boolean) ∈ mm_tbl := mm_tb8 (j := 78) rfl
theorem mm_ws201 : tables_1[1757]? = some (.instanceMethod ⟨"PlainPacksModel", "isFit", "(IIZ)Z"⟩) := by decide +kernel
theorem mm_we201 : Cond.selects "PlainPacksModel" ⟨"PlainPacksModel", "isFit", "(IIZ)Z"⟩ ⟨"PlainPacksModel", "isFit", "(IIZ)Z"⟩ ∈ mm_tbl := mm_tbF (List.mem_append_left _ (List.mem_of_getElem? (i := 89) (by decide +kernel)))
theorem mm_wc202 : Cond.code ⟨"PlainPacksModel", "decode", "(II)I"⟩ prog_14_method_31_code 8 (some .int) ∈ mm_tbl := mm_tb8 (j := 91) rfl
theorem mm_ws202 : tables_1[1770]? = some (.instanceMethod ⟨"PlainPacksModel", "decode", "(II)I"⟩) := by decide +kernel
theorem mm_we202 : Cond.selects "PlainPacksModel" ⟨"PlainPacksModel", "decode", "(II)I"⟩ ⟨"PlainPacksModel", "decode", "(II)I"⟩ ∈ mm_tbl := mm_tbF (List.mem_append_left _ (List.mem_of_getElem? (i := 92) (by decide +kernel)))
theorem mm_wc203 : Cond.code ⟨"PlainPacksModel", "blocksTo", "(I)V"⟩ prog_14_method_32_code 4 none ∈ mm_tbl := mm_tb8 (j := 41) rfl
theorem mm_ws203 : tables_1[1720]? = some (.instanceMethod ⟨"PlainPacksModel", "blocksTo", "(I)V"⟩) := by decide +kernel
theorem mm_we203 : Cond.selects "PlainPacksModel" ⟨"PlainPacksModel", "blocksTo", "(I)V"⟩ ⟨"PlainPacksModel", "blocksTo", "(I)V"⟩ ∈ mm_tbl := mm_tbF (List.mem_append_left _ (List.mem_of_getElem? (i := 80) (by decide +kernel)))
theorem mm_wc204 : Cond.code ⟨"PlainPacksModel", "stored", "()V"⟩ prog_14_method_33_code 3 none ∈ mm_tbl := mm_tb8 (j := 53) rfl
theorem mm_ws204 : tables_1[1732]? = some (.instanceMethod ⟨"PlainPacksModel", "stored", "()V"⟩) := by decide +kernel
theorem mm_we204 : Cond.selects "PlainPacksModel" ⟨"PlainPacksModel", "stored", "()V"⟩ ⟨"PlainPacksModel", "stored", "()V"⟩ ∈ mm_tbl := mm_tbF (List.mem_append_left _ (List.mem_of_getElem? (i := 83) (by decide +kernel)))
theorem mm_wc205 : Cond.code ⟨"PlainPacksModel", "fixed", "()V"⟩ prog_14_method_34_code 2 none ∈ mm_tbl := mm_tb8 (j := 66) rfl
theorem mm_ws205 : tables_1[1745]? = some (.instanceMethod ⟨"PlainPacksModel", "fixed", "()V"⟩) := by decide +kernel
theorem mm_we205 : Cond.selects "PlainPacksModel" ⟨"PlainPacksModel", "fixed", "()V"⟩ ⟨"PlainPacksModel", "fixed", "()V"⟩ ∈ mm_tbl := mm_tbF (List.mem_append_left _ (List.mem_of_getElem? (i := 86) (by decide +kernel)))
theorem mm_wc206 : Cond.code ⟨"PlainPacksModel", "dynamic", "()V"⟩ prog_14_method_35_code 3 none ∈ mm_tbl := mm_tb8 (j := 74) rfl
theorem mm_ws206 : tables_1[1753]? = some (.instanceMethod ⟨"PlainPacksModel", "dynamic", "()V"⟩) := by decide +kernel
theorem mm_we206 : Cond.selects "PlainPacksModel" ⟨"PlainPacksModel", "dynamic", "()V"⟩ ⟨"PlainPacksModel", "dynamic", "()V"⟩ ∈ mm_tbl := mm_tbF (List.mem_append_left _ (List.mem_of_getElem? (i := 88) (by decide +kernel)))
theorem mm_wc207 : Cond.code ⟨"PlainPacksModel", "rowOf", "(I)V"⟩ prog_14_method_36_code 7 none ∈ mm_tbl := mm_tb8 (j := 87) rfl
theorem mm_ws207 : tables_1[1766]? = some (.instanceMethod ⟨"PlainPacksModel", "rowOf", "(I)V"⟩) := by decide +kernel
theorem mm_we207 : Cond.selects "PlainPacksModel" ⟨"PlainPacksModel", "rowOf", "(I)V"⟩ ⟨"PlainPacksModel", "rowOf", "(I)V"⟩ ∈ mm_tbl := mm_tbF (List.mem_append_left _ (List.mem_of_getElem? (i := 91) (by decide +kernel)))
theorem mm_wc208 : Cond.code ⟨"PlainPacksModel", "lettersTo", "(I)V"⟩ prog_14_method_37_code 6 none ∈ mm_tbl := mm_tb8 (j := 95) rfl
theorem mm_ws208 : tables_1[1774]? = some (.instanceMethod ⟨"PlainPacksModel", "lettersTo", "(I)V"⟩) := by decide +kernel
theorem mm_we208 : Cond.selects "PlainPacksModel" ⟨"PlainPacksModel", "lettersTo", "(I)V"⟩ ⟨"PlainPacksModel", "lettersTo", "(I)V"⟩ ∈ mm_tbl := mm_tbF (List.mem_append_left _ (List.mem_of_getElem? (i := 93) (by decide +kernel)))
theorem mm_wc209 : Cond.code ⟨"PlainPacksModel", "distanceTo", "(II)V"⟩ prog_14_method_38_code 6 none ∈ mm_tbl := mm_tb8 (j := 99) rfl
theorem mm_ws209 : tables_1[1778]? = some (.instanceMethod ⟨"PlainPacksModel", "distanceTo", "(II)V"⟩) := by decide +kernel
theorem mm_we209 : Cond.selects "PlainPacksModel" ⟨"PlainPacksModel", "distanceTo", "(II)V"⟩ ⟨"PlainPacksModel", "distanceTo", "(II)V"⟩ ∈ mm_tbl := mm_tbF (List.mem_append_left _ (List.mem_of_getElem? (i := 94) (by decide +kernel)))
theorem mm_wc210 : Cond.code ⟨"PlainPacksModel", "wrapped", "()V"⟩ prog_14_method_39_code 5 none ∈ mm_tbl := mm_tb8 (j := 107) rfl
theorem mm_ws210 : tables_1[1786]? = some (.instanceMethod ⟨"PlainPacksModel", "wrapped", "()V"⟩) := by decide +kernel
theorem mm_we210 : Cond.selects "PlainPacksModel" ⟨"PlainPacksModel", "wrapped", "()V"⟩ ⟨"PlainPacksModel", "wrapped", "()V"⟩ ∈ mm_tbl := mm_tbF (List.mem_append_left _ (List.mem_of_getElem? (i := 96) (by decide +kernel)))
theorem mm_wc211 : Cond.code ⟨"PlainPacksModel", "toZero", "()V"⟩ prog_14_method_40_code 2 none ∈ mm_tbl := mm_tb8 (j := 119) rfl
theorem mm_ws211 : tables_1[1798]? = some (.instanceMethod ⟨"PlainPacksModel", "toZero", "()V"⟩) := by decide +kernel
theorem mm_we211 : Cond.selects "PlainPacksModel" ⟨"PlainPacksModel", "toZero", "()V"⟩ ⟨"PlainPacksModel", "toZero", "()V"⟩ ∈ mm_tbl := mm_tbF (List.mem_append_left _ (List.mem_of_getElem? (i := 99) (by decide +kernel)))
theorem mm_wc212 : Cond.code ⟨"PlainPacksModel", "file", "()V"⟩ prog_14_method_41_code 4 none ∈ mm_tbl := mm_tb8 (j := 111) rfl
theorem mm_ws212 : tables_1[1790]? = some (.instanceMethod ⟨"PlainPacksModel", "file", "()V"⟩) := by decide +kernel
theorem mm_we212 : Cond.selects "PlainPacksModel" ⟨"PlainPacksModel", "file", "()V"⟩ ⟨"PlainPacksModel", "file", "()V"⟩ ∈ mm_tbl := mm_tbF (List.mem_append_left _ (List.mem_of_getElem? (i := 97) (by decide +kernel)))
theorem mm_wc213 : Cond.code ⟨"PlainPacksModel", "sumIs", "(I)V"⟩ prog_14_method_42_code 3 none ∈ mm_tbl := mm_tb8 (j := 123) rfl
theorem mm_ws213 : tables_1[1802]? = some (.instanceMethod ⟨"PlainPacksModel", "sumIs", "(I)V"⟩) := by decide +kernel
theorem mm_we213 : Cond.selects "PlainPacksModel" ⟨"PlainPacksModel", "sumIs", "(I)V"⟩ ⟨"PlainPacksModel", "sumIs", "(I)V"⟩ ∈ mm_tbl := mm_tbF (List.mem_append_left _ (List.mem_of_getElem? (i := 100) (by decide +kernel)))
theorem mm_wc214 : Cond.code ⟨"PlainPacksModel", "runs", "()V"⟩ prog_14_method_43_code 4 none ∈ mm_tbl := mm_tb8 (j := 25) rfl
theorem mm_ws214 : tables_1[1704]? = some (.instanceMethod ⟨"PlainPacksModel", "runs", "()V"⟩) := by decide +kernel
theorem mm_we214 : Cond.selects "PlainPacksModel" ⟨"PlainPacksModel", "runs", "()V"⟩ ⟨"PlainPacksModel", "runs", "()V"⟩ ∈ mm_tbl := mm_tbF (List.mem_append_left _ (List.mem_of_getElem? (i := 76) (by decide +kernel)))
theorem mm_wc215 : Cond.code ⟨"PlainPacksModel", "words", "(IZ)V"⟩ prog_14_method_44_code 11 none ∈ mm_tbl := mm_tb8 (j := 131) rfl
theorem mm_ws215 : tables_1[1810]? = some (.instanceMethod ⟨"PlainPacksModel", "words", "(IZ)V"⟩) := by decide +kernel
theorem mm_we215 : Cond.selects "PlainPacksModel" ⟨"PlainPacksModel", "words", "(IZ)V"⟩ ⟨"PlainPacksModel", "words", "(IZ)V"⟩ ∈ mm_tbl := mm_tbF (List.mem_append_left _ (List.mem_of_getElem? (i := 102) (by decide +kernel)))
theorem mm_wc216 : Cond.code ⟨"PlainPacksModel", "wordsLow", "()V"⟩ prog_14_method_45_code 2 none ∈ mm_tbl := mm_tb8 (j := 127) rfl
theorem mm_ws216 : tables_1[1806]? = some (.instanceMethod ⟨"PlainPacksModel", "wordsLow", "()V"⟩) := by decide +kernel
theorem mm_we216 : Cond.selects "PlainPacksModel" ⟨"PlainPacksModel", "wordsLow", "()V"⟩ ⟨"PlainPacksModel", "wordsLow", "()V"⟩ ∈ mm_tbl := mm_tbF (List.mem_append_left _ (List.mem_of_getElem? (i := 101) (by decide +kernel)))
theorem mm_wc217 : Cond.code ⟨"PlainPacksModel", "grown", "(I)I"⟩ prog_14_method_46_code 4 (some .int) ∈ mm_tbl := mm_tb8 (j := 139) rfl
theorem mm_ws217 : tables_1[1818]? = some (.instanceMethod ⟨"PlainPacksModel", "grown", "(I)I"⟩) := by decide +kernel
theorem mm_we217 : Cond.selects "PlainPacksModel" ⟨"PlainPacksModel", "grown", "(I)I"⟩ ⟨"PlainPacksModel", "grown", "(I)I"⟩ ∈ mm_tbl := mm_tbF (List.mem_append_left _ (List.mem_of_getElem? (i := 104) (by decide +kernel)))
theorem mm_wc218 : Cond.code ⟨"PlainPacksModel", "pieces", "(II)V"⟩ prog_14_method_47_code 9 none ∈ mm_tbl := mm_tb8 (j := 135) rfl
theorem mm_ws218 : tables_1[1814]? = some (.instanceMethod ⟨"PlainPacksModel", "pieces", "(II)V"⟩) := by decide +kernel
theorem mm_we218 : Cond.selects "PlainPacksModel" ⟨"PlainPacksModel", "pieces", "(II)V"⟩ ⟨"PlainPacksModel", "pieces", "(II)V"⟩ ∈ mm_tbl := mm_tbF (List.mem_append_left _ (List.mem_of_getElem? (i := 103) (by decide +kernel)))
theorem mm_wc219 : Cond.code ⟨"PlainPacksModel", "frame", "()V"⟩ prog_14_method_48_code 11 none ∈ mm_tbl := mm_tb8 (j := 143) rfl
theorem mm_ws219 : tables_1[1822]? = some (.instanceMethod ⟨"PlainPacksModel", "frame", "()V"⟩) := by decide +kernel
theorem mm_we219 : Cond.selects "PlainPacksModel" ⟨"PlainPacksModel", "frame", "()V"⟩ ⟨"PlainPacksModel", "frame", "()V"⟩ ∈ mm_tbl := mm_tbF (List.mem_append_left _ (List.mem_of_getElem? (i := 105) (by decide +kernel)))
theorem mm_wc220 : Cond.code ⟨"PlainPacksModel", "block", "(JJI)V"⟩ prog_14_method_49_code 10 none ∈ mm_tbl := mm_tb8 (j := 147) rfl
theorem mm_ws220 : tables_1[1826]? = some (.instanceMethod ⟨"PlainPacksModel", "block", "(JJI)V"⟩) := by decide +kernel
theorem mm_we220 : Cond.selects "PlainPacksModel" ⟨"PlainPacksModel", "block", "(JJI)V"⟩ ⟨"PlainPacksModel", "block", "(JJI)V"⟩ ∈ mm_tbl := mm_tbF (List.mem_append_left _ (List.mem_of_getElem? (i := 106) (by decide +kernel)))
theorem mm_wc221 : Cond.code ⟨"PlainPacksModel", "tags", "()V"⟩ prog_14_method_50_code 6 none ∈ mm_tbl := mm_tb8 (j := 152) rfl
theorem mm_ws221 : tables_1[1831]? = some (.instanceMethod ⟨"PlainPacksModel", "tags", "()V"⟩) := by decide +kernel
theorem mm_we221 : Cond.selects "PlainPacksModel" ⟨"PlainPacksModel", "tags", "()V"⟩ ⟨"PlainPacksModel", "tags", "()V"⟩ ∈ mm_tbl := mm_tbF (List.mem_append_left _ (List.mem_of_getElem? (i := 107) (by decide +kernel)))
theorem mm_wc222 : Cond.code ⟨"PlainPacksModel", "tag", "(IJ)V"⟩ prog_14_method_51_code 10 none ∈ mm_tbl := mm_tb8 (j := 158) rfl
theorem mm_ws222 : tables_1[1837]? = some (.instanceMethod ⟨"PlainPacksModel", "tag", "(IJ)V"⟩) := by decide +kernel
theorem mm_we222 : Cond.selects "PlainPacksModel" ⟨"PlainPacksModel", "tag", "(IJ)V"⟩ ⟨"PlainPacksModel", "tag", "(IJ)V"⟩ ∈ mm_tbl := mm_tbF (List.mem_append_left _ (List.mem_of_getElem? (i := 108) (by decide +kernel)))
theorem mm_wc223 : Cond.code ⟨"PlainPacksModel", "sorted", "()V"⟩ prog_14_method_52_code 7 none ∈ mm_tbl := mm_tb8 (j := 163) rfl
theorem mm_ws223 : tables_1[1842]? = some (.instanceMethod ⟨"PlainPacksModel", "sorted", "()V"⟩) := by decide +kernel
theorem mm_we223 : Cond.selects "PlainPacksModel" ⟨"PlainPacksModel", "sorted", "()V"⟩ ⟨"PlainPacksModel", "sorted", "()V"⟩ ∈ mm_tbl := mm_tbF (List.mem_append_left _ (List.mem_of_getElem? (i := 109) (by decide +kernel)))
theorem mm_wc224 : Cond.code ⟨"PlainPacksModel", "sortedBlock", "()I"⟩ prog_14_method_53_code 5 (some .int) ∈ mm_tbl := mm_tb8 (j := 169) rfl
theorem mm_ws224 : tables_1[1848]? = some (.instanceMethod ⟨"PlainPacksModel", "sortedBlock", "()I"⟩) := by decide +kernel
theorem mm_we224 : Cond.selects "PlainPacksModel" ⟨"PlainPacksModel", "sortedBlock", "()I"⟩ ⟨"PlainPacksModel", "sortedBlock", "()I"⟩ ∈ mm_tbl := mm_tbF (List.mem_append_left _ (List.mem_of_getElem? (i := 110) (by decide +kernel)))
theorem mm_wc225 : Cond.code ⟨"PlainPacksModel", "occurring", "()V"⟩ prog_14_method_54_code 5 none ∈ mm_tbl := mm_tb8 (j := 173) rfl
theorem mm_ws225 : tables_1[1852]? = some (.instanceMethod ⟨"PlainPacksModel", "occurring", "()V"⟩) := by decide +kernel
theorem mm_we225 : Cond.selects "PlainPacksModel" ⟨"PlainPacksModel", "occurring", "()V"⟩ ⟨"PlainPacksModel", "occurring", "()V"⟩ ∈ mm_tbl := mm_tbF (List.mem_append_left _ (List.mem_of_getElem? (i := 111) (by decide +kernel)))
theorem mm_wc226 : Cond.code ⟨"PlainPacksModel", "readSelectors", "()V"⟩ prog_14_method_55_code 5 none ∈ mm_tbl := mm_tb8 (j := 177) rfl
theorem mm_ws226 : tables_1[1856]? = some (.instanceMethod ⟨"PlainPacksModel", "readSelectors", "()V"⟩) := by decide +kernel
theorem mm_we226 : Cond.selects "PlainPacksModel" ⟨"PlainPacksModel", "readSelectors", "()V"⟩ ⟨"PlainPacksModel", "readSelectors", "()V"⟩ ∈ mm_tbl := mm_tbF (List.mem_append_left _ (List.mem_of_getElem? (i := 112) (by decide +kernel)))
theorem mm_wc227 : Cond.code ⟨"PlainPacksModel", "readTable", "(II)V"⟩ prog_14_method_56_code 5 none ∈ mm_tbl := mm_tb8 (j := 181) rfl
theorem mm_ws227 : tables_1[1860]? = some (.instanceMethod ⟨"PlainPacksModel", "readTable", "(II)V"⟩) := by decide +kernel
theorem mm_we227 : Cond.selects "PlainPacksModel" ⟨"PlainPacksModel", "readTable", "(II)V"⟩ ⟨"PlainPacksModel", "readTable", "(II)V"⟩ ∈ mm_tbl := mm_tbF (List.mem_append_left _ (List.mem_of_getElem? (i := 113) (by decide +kernel)))
theorem mm_wc228 : Cond.code ⟨"PlainPacksModel", "readLetters", "(I)V"⟩ prog_14_method_57_code 9 none ∈ mm_tbl := mm_tb8 (j := 185) rfl
theorem mm_ws228 : tables_1[1864]? = some (.instanceMethod ⟨"PlainPacksModel", "readLetters", "(I)V"⟩) := by decide +kernel
theorem mm_we228 : Cond.selects "PlainPacksModel" ⟨"PlainPacksModel", "readLetters", "(I)V"⟩ ⟨"PlainPacksModel", "readLetters", "(I)V"⟩ ∈ mm_tbl := mm_tbF (List.mem_append_left _ (List.mem_of_getElem? (i := 114) (by decide +kernel)))
theorem mm_wc229 : Cond.code ⟨"PlainPacksModel", "fill", "(J)V"⟩ prog_14_method_58_code 5 none ∈ mm_tbl := mm_tb8 (j := 189) rfl
theorem mm_ws229 : tables_1[1868]? = some (.instanceMethod ⟨"PlainPacksModel", "fill", "(J)V"⟩) := by decide +kernel
theorem mm_we229 : Cond.selects "PlainPacksModel" ⟨"PlainPacksModel", "fill", "(J)V"⟩ ⟨"PlainPacksModel", "fill", "(J)V"⟩ ∈ mm_tbl := mm_tbF (List.mem_append_left _ (List.mem_of_getElem? (i := 115) (by decide +kernel)))
theorem mm_wc230 : Cond.code ⟨"PlainPacksModel", "toFront", "(I)V"⟩ prog_14_method_59_code 4 none ∈ mm_tbl := mm_tb8 (j := 193) rfl
theorem mm_ws230 : tables_1[1872]? = some (.instanceMethod ⟨"PlainPacksModel", "toFront", "(I)V"⟩) := by decide +kernel
theorem mm_we230 : Cond.selects "PlainPacksModel" ⟨"PlainPacksModel", "toFront", "(I)V"⟩ ⟨"PlainPacksModel", "toFront", "(I)V"⟩ ∈ mm_tbl := mm_tbF (List.mem_append_left _ (List.mem_of_getElem? (i := 116) (by decide +kernel)))
theorem mm_wc231 : Cond.code ⟨"PlainPacksModel", "walk", "(I)V"⟩ prog_14_method_60_code 9 none ∈ mm_tbl := mm_tb8 (j := 197) rfl
theorem mm_ws231 : tables_1[1876]? = some (.instanceMethod ⟨"PlainPacksModel", "walk", "(I)V"⟩) := by decide +kernel
theorem mm_we231 : Cond.selects "PlainPacksModel" ⟨"PlainPacksModel", "walk", "(I)V"⟩ ⟨"PlainPacksModel", "walk", "(I)V"⟩ ∈ mm_tbl := mm_tbF (List.mem_append_left _ (List.mem_of_getElem? (i := 117) (by decide +kernel)))
theorem mm_wc232 : Cond.code ⟨"PlainPacksModel", "grow", "()V"⟩ prog_14_method_61_code 1 none ∈ mm_tbl := mm_tb8 (j := 215) rfl
theorem mm_ws232 : tables_1[1894]? = some (.instanceMethod ⟨"PlainPacksModel", "grow", "()V"⟩) := by decide +kernel
theorem mm_we232 : Cond.selects "PlainPacksModel" ⟨"PlainPacksModel", "grow", "()V"⟩ ⟨"PlainPacksModel", "grow", "()V"⟩ ∈ mm_tbl := mm_tbF (List.mem_append_left _ (List.mem_of_getElem? (i := 121) (by decide +kernel)))
theorem mm_wc233 : Cond.code ⟨"PlainPacksModel", "chance", "(I)I"⟩ prog_14_method_62_code 5 (some .int) ∈ mm_tbl := mm_tb8 (j := 210) rfl
theorem mm_ws233 : tables_1[1889]? = some (.instanceMethod ⟨"PlainPacksModel", "chance", "(I)I"⟩) := by decide +kernel
theorem mm_we233 : Cond.selects "PlainPacksModel" ⟨"PlainPacksModel", "chance", "(I)I"⟩ ⟨"PlainPacksModel", "chance", "(I)I"⟩ ∈ mm_tbl := mm_tbF (List.mem_append_left _ (List.mem_of_getElem? (i := 120) (by decide +kernel)))
theorem mm_wc234 : Cond.code ⟨"PlainPacksModel", "tree", "(II)I"⟩ prog_14_method_63_code 5 (some .int) ∈ mm_tbl := mm_tb8 (j := 228) rfl
theorem mm_ws234 : tables_1[1907]? = some (.instanceMethod ⟨"PlainPacksModel", "tree", "(II)I"⟩) := by decide +kernel
theorem mm_we234 : Cond.selects "PlainPacksModel" ⟨"PlainPacksModel", "tree", "(II)I"⟩ ⟨"PlainPacksModel", "tree", "(II)I"⟩ ∈ mm_tbl := mm_tbF (List.mem_append_left _ (List.mem_of_getElem? (i := 124) (by decide +kernel)))
theorem mm_wc235 : Cond.code ⟨"PlainPacksModel", "turnedTree", "(II)J"⟩ prog_14_method_64_code 8 (some .long) ∈ mm_tbl := mm_tb9 (j := 1) rfl
theorem mm_ws235 : tables_1[1920]? = some (.instanceMethod ⟨"PlainPacksModel", "turnedTree", "(II)J"⟩) := by decide +kernel
theorem mm_we235 : Cond.selects "PlainPacksModel" ⟨"PlainPacksModel", "turnedTree", "(II)J"⟩ ⟨"PlainPacksModel", "turnedTree", "(II)J"⟩ ∈ mm_tbl := mm_tbF (List.mem_append_left _ (List.mem_of_getElem? (i := 127) (by decide +kernel)))
theorem mm_wc236 : Cond.code ⟨"PlainPacksModel", "plainBits", "(I)J"⟩ prog_14_method_65_code 6 (some .long) ∈ mm_tbl := mm_tb9 (j := 5) rfl
theorem mm_ws236 : tables_1[1924]? = some (.instanceMethod ⟨"PlainPacksModel", "plainBits", "(I)J"⟩) := by decide +kernel
theorem mm_we236 : Cond.selects "PlainPacksModel" ⟨"PlainPacksModel", "plainBits", "(I)J"⟩ ⟨"PlainPacksModel", "plainBits", "(I)J"⟩ ∈ mm_tbl := mm_tbF (List.mem_append_left _ (List.mem_of_getElem? (i := 128) (by decide +kernel)))
theorem mm_wc237 : Cond.code ⟨"PlainPacksModel", "chancesTold", "()V"⟩ prog_14_method_66_code 5 none ∈ mm_tbl := mm_tb8 (j := 201) rfl
theorem mm_ws237 : tables_1[1880]? = some (.instanceMethod ⟨"PlainPacksModel", "chancesTold", "()V"⟩) := by decide +kernel
theorem mm_we237 : Cond.selects "PlainPacksModel" ⟨"PlainPacksModel", "chancesTold", "()V"⟩ ⟨"PlainPacksModel", "chancesTold", "()V"⟩ ∈ mm_tbl := mm_tbF (List.mem_append_left _ (List.mem_of_getElem? (i := 118) (by decide +kernel)))
theorem mm_wc238 : Cond.code ⟨"PlainPacksModel", "place", "(J)Z"⟩ prog_14_method_67_code 9 (some .boolean) ∈ mm_tbl := mm_tb8 (j := 206) rfl
theorem mm_ws238 : tables_1[1885]? = some (.instanceMethod ⟨"PlainPacksModel", "place", "(J)Z"⟩) := by decide +kernel
theorem mm_we238 : Cond.selects "PlainPacksModel" ⟨"PlainPacksModel", "place", "(J)Z"⟩ ⟨"PlainPacksModel", "place", "(J)Z"⟩ ∈ mm_tbl := mm_tbF (List.mem_append_left _ (List.mem_of_getElem? (i := 119) (by decide +kernel)))
theorem mm_wc239 : Cond.code ⟨"PlainPacksModel", "isThere", "(I)V"⟩ prog_14_method_68_code 2 none ∈ mm_tbl := mm_tb9 (j := 10) rfl
theorem mm_ws239 : tables_1[1929]? = some (.instanceMethod ⟨"PlainPacksModel", "isThere", "(I)V"⟩) := by decide +kernel
theorem mm_we239 : Cond.selects "PlainPacksModel" ⟨"PlainPacksModel", "isThere", "(I)V"⟩ ⟨"PlainPacksModel", "isThere", "(I)V"⟩ ∈ mm_tbl := mm_tbF (List.mem_append_left _ (List.mem_of_getElem? (i := 129) (by decide +kernel)))
theorem mm_wc240 : Cond.code ⟨"PlainPacksModel", "isRoom", "(IJ)V"⟩ prog_14_method_69_code 4 none ∈ mm_tbl := mm_tb8 (j := 232) rfl
theorem mm_ws240 : tables_1[1911]? = some (.instanceMethod ⟨"PlainPacksModel", "isRoom", "(IJ)V"⟩) := by decide +kernel
theorem mm_we240 : Cond.selects "PlainPacksModel" ⟨"PlainPacksModel", "isRoom", "(IJ)V"⟩ ⟨"PlainPacksModel", "isRoom", "(IJ)V"⟩ ∈ mm_tbl := mm_tbF (List.mem_append_left _ (List.mem_of_getElem? (i := 125) (by decide +kernel)))
theorem mm_wc241 : Cond.code ⟨"PlainPacksModel", "byByte", "()V"⟩ prog_14_method_70_code 9 none ∈ mm_tbl := mm_tb8 (j := 220) rfl
theorem mm_ws241 : tables_1[1899]? = some (.instanceMethod ⟨"PlainPacksModel", "byByte", "()V"⟩) := by decide +kernel
theorem mm_we241 : Cond.selects "PlainPacksModel" ⟨"PlainPacksModel", "byByte", "()V"⟩ ⟨"PlainPacksModel", "byByte", "()V"⟩ ∈ mm_tbl := mm_tbF (List.mem_append_left _ (List.mem_of_getElem? (i := 122) (by decide +kernel)))
theorem mm_wc242 : Cond.code ⟨"PlainPacksModel", "lengthOf", "(II)I"⟩ prog_14_method_71_code 3 (some .int) ∈ mm_tbl := mm_tb8 (j := 224) rfl
theorem mm_ws242 : tables_1[1903]? = some (.instanceMethod ⟨"PlainPacksModel", "lengthOf", "(II)I"⟩) := by decide +kernel
theorem mm_we242 : Cond.selects "PlainPacksModel" ⟨"PlainPacksModel", "lengthOf", "(II)I"⟩ ⟨"PlainPacksModel", "lengthOf", "(II)I"⟩ ∈ mm_tbl := mm_tbF (List.mem_append_left _ (List.mem_of_getElem? (i := 123) (by decide +kernel)))
theorem mm_wc243 : Cond.code ⟨"PlainPacksModel", "distanceOf", "(I)J"⟩ prog_14_method_72_code 7 (some .long) ∈ mm_tbl := mm_tb8 (j := 236) rfl
theorem mm_ws243 : tables_1[1915]? = some (.instanceMethod ⟨"PlainPacksModel", "distanceOf", "(I)J"⟩) := by decide +kernel
theorem mm_we243 : Cond.selects "PlainPacksModel" ⟨"PlainPacksModel", "distanceOf", "(I)J"⟩ ⟨"PlainPacksModel", "distanceOf", "(I)J"⟩ ∈ mm_tbl := mm_tbF (List.mem_append_left _ (List.mem_of_getElem? (i := 126) (by decide +kernel)))
theorem mm_wc244 : Cond.code ⟨"PlainPacksModel", "open", "(I)I"⟩ prog_14_method_73_code 2 (some .int) ∈ mm_tbl := mm_tb8 (j := 20) rfl
theorem mm_ws244 : tables_1[1698]? = some (.instanceMethod ⟨"PlainPacksModel", "open", "(I)I"⟩) := by decide +kernel
theorem mm_we244 : Cond.selects "PlainPacksModel" ⟨"PlainPacksModel", "open", "(I)I"⟩ ⟨"PlainPacksModel", "open", "(I)I"⟩ ∈ mm_tbl := mm_tb (j := 1699) (by decide +kernel)
theorem mm_wc245 : Cond.code ⟨"PlainPacksModel", "write", "(I)V"⟩ prog_14_method_74_code 2 none ∈ mm_tbl := mm_tb9 (j := 46) rfl
theorem mm_ws245 : tables_1[1965]? = some (.instanceMethod ⟨"PlainPacksModel", "write", "(I)V"⟩) := by decide +kernel
theorem mm_we245 : Cond.selects "PlainPacksModel" ⟨"PlainPacksModel", "write", "(I)V"⟩ ⟨"PlainPacksModel", "write", "(I)V"⟩ ∈ mm_tbl := mm_tbF (List.mem_append_left _ (List.mem_of_getElem? (i := 136) (by decide +kernel)))
theorem mm_wc246 : Cond.code ⟨"PlainPacksModel", "writeLow", "(JI)V"⟩ prog_14_method_75_code 5 none ∈ mm_tbl := mm_tb9 (j := 96) rfl
theorem mm_ws246 : tables_1[2015]? = some (.instanceMethod ⟨"PlainPacksModel", "writeLow", "(JI)V"⟩) := by decide +kernel
theorem mm_we246 : Cond.selects "PlainPacksModel" ⟨"PlainPacksModel", "writeLow", "(JI)V"⟩ ⟨"PlainPacksModel", "writeLow", "(JI)V"⟩ ∈ mm_tbl := mm_tbF (List.mem_append_left _ (List.mem_of_getElem? (i := 144) (by decide +kernel)))
theorem mm_wc247 : Cond.code ⟨"PlainPacksModel", "writeBit", "(I)V"⟩ prog_14_method_76_code 2 none ∈ mm_tbl := mm_tb9 (j := 62) rfl
theorem mm_ws247 : tables_1[1981]? = some (.instanceMethod ⟨"PlainPacksModel", "writeBit", "(I)V"⟩) := by decide +kernel
theorem mm_we247 : Cond.selects "PlainPacksModel" ⟨"PlainPacksModel", "writeBit", "(I)V"⟩ ⟨"PlainPacksModel", "writeBit", "(I)V"⟩ ∈ mm_tbl := mm_tbF (List.mem_append_left _ (List.mem_of_getElem? (i := 140) (by decide +kernel)))
theorem mm_wc248 : Cond.code ⟨"PlainPacksModel", "writeRest", "()V"⟩ prog_14_method_77_code 1 none ∈ mm_tbl := mm_tb9 (j := 66) rfl
theorem mm_ws248 : tables_1[1985]? = some (.instanceMethod ⟨"PlainPacksModel", "writeRest", "()V"⟩) := by decide +kernel
theorem mm_we248 : Cond.selects "PlainPacksModel" ⟨"PlainPacksModel", "writeRest", "()V"⟩ ⟨"PlainPacksModel", "writeRest", "()V"⟩ ∈ mm_tbl := mm_tbF (List.mem_append_left _ (List.mem_of_getElem? (i := 141) (by decide +kernel)))
theorem mm_wc249 : Cond.code ⟨"PlainPacksModel", "writeBits", "(JIZ)V"⟩ prog_14_method_78_code 6 none ∈ mm_tbl := mm_tb9 (j := 58) rfl
theorem mm_ws249 : tables_1[1977]? = some (.instanceMethod ⟨"PlainPacksModel", "writeBits", "(JIZ)V"⟩) := by decide +kernel
theorem mm_we249 : Cond.selects "PlainPacksModel" ⟨"PlainPacksModel", "writeBits", "(JIZ)V"⟩ ⟨"PlainPacksModel", "writeBits", "(JIZ)V"⟩ ∈ mm_tbl := mm_tbF (List.mem_append_left _ (List.mem_of_getElem? (i := 139) (by decide +kernel)))
theorem mm_wc250 : Cond.code ⟨"PlainPacksModel", "look", "(IIII)V"⟩ prog_14_method_79_code 8 none ∈ mm_tbl := mm_tb9 (j := 70) rfl
theorem mm_ws250 : tables_1[1989]? = some (.instanceMethod ⟨"PlainPacksModel", "look", "(IIII)V"⟩) := by decide +kernel
theorem mm_we250 : Cond.selects "PlainPacksModel" ⟨"PlainPacksModel", "look", "(IIII)V"⟩ ⟨"PlainPacksModel", "look", "(IIII)V"⟩ ∈ mm_tbl := mm_tbF (List.mem_append_left _ (List.mem_of_getElem? (i := 142) (by decide +kernel)))
theorem mm_wc251 : Cond.code ⟨"PlainPacksModel", "alikeAt", "(II)I"⟩ prog_14_method_80_code 4 (some .int) ∈ mm_tbl := mm_tb9 (j := 42) rfl
theorem mm_ws251 : tables_1[1961]? = some (.instanceMethod ⟨"PlainPacksModel", "alikeAt", "(II)I"⟩) := by decide +kernel
theorem mm_we251 : Cond.selects "PlainPacksModel" ⟨"PlainPacksModel", "alikeAt", "(II)I"⟩ ⟨"PlainPacksModel", "alikeAt", "(II)I"⟩ ∈ mm_tbl := mm_tbF (List.mem_append_left _ (List.mem_of_getElem? (i := 135) (by decide +kernel)))
theorem mm_wc252 : Cond.code ⟨"PlainPacksModel", "packRuns", "()V"⟩ prog_14_method_81_code 4 none ∈ mm_tbl := mm_tb9 (j := 38) rfl
theorem mm_ws252 : tables_1[1957]? = some (.instanceMethod ⟨"PlainPacksModel", "packRuns", "()V"⟩) := by decide +kernel
theorem mm_we252 : Cond.selects "PlainPacksModel" ⟨"PlainPacksModel", "packRuns", "()V"⟩ ⟨"PlainPacksModel", "packRuns", "()V"⟩ ∈ mm_tbl := mm_tbF (List.mem_append_left _ (List.mem_of_getElem? (i := 134) (by decide +kernel)))
theorem mm_wc253 : Cond.code ⟨"PlainPacksModel", "writeLetter", "(I)V"⟩ prog_14_method_82_code 2 none ∈ mm_tbl := mm_tb9 (j := 74) rfl
theorem mm_ws253 : tables_1[1993]? = some (.instanceMethod ⟨"PlainPacksModel", "writeLetter", "(I)V"⟩) := by decide +kernel
theorem mm_we253 : Cond.selects "PlainPacksModel" ⟨"PlainPacksModel", "writeLetter", "(I)V"⟩ ⟨"PlainPacksModel", "writeLetter", "(I)V"⟩ ∈ mm_tbl := mm_tbF (List.mem_append_left _ (List.mem_of_getElem? (i := 143) (by decide +kernel)))
theorem mm_wc254 : Cond.code ⟨"PlainPacksModel", "letterOf", "(I)I"⟩ prog_14_method_83_code 2 (some .int) ∈ mm_tbl := mm_tb9 (j := 77) rfl
theorem mm_ws254 : tables_1[1996]? = some (.static ⟨"PlainPacksModel", "letterOf", "(I)I"⟩) := by decide +kernel
theorem mm_wc255 : Cond.code ⟨"PlainPacksModel", "leastLength", "(I)I"⟩ prog_14_method_84_code 1 (some .int) ∈ mm_tbl := mm_tb9 (j := 80) rfl
theorem mm_ws255 : tables_1[1999]? = some (.static ⟨"PlainPacksModel", "leastLength", "(I)I"⟩) := by decide +kernel
theorem mm_wc256 : Cond.code ⟨"PlainPacksModel", "leastDistance", "(I)I"⟩ prog_14_method_85_code 1 (some .int) ∈ mm_tbl := mm_tb9 (j := 89) rfl
theorem mm_ws256 : tables_1[2008]? = some (.static ⟨"PlainPacksModel", "leastDistance", "(I)I"⟩) := by decide +kernel
theorem mm_wc257 : Cond.code ⟨"PlainPacksModel", "distanceLetter", "(I)I"⟩ prog_14_method_86_code 2 (some .int) ∈ mm_tbl := mm_tb9 (j := 86) rfl
theorem mm_ws257 : tables_1[2005]? = some (.static ⟨"PlainPacksModel", "distanceLetter", "(I)I"⟩) := by decide +kernel
theorem mm_wc258 : Cond.code ⟨"PlainPacksModel", "moreBits", "(I)I"⟩ prog_14_method_87_code 1 (some .int) ∈ mm_tbl := mm_tb9 (j := 83) rfl
theorem mm_ws258 : tables_1[2002]? = some (.static ⟨"PlainPacksModel", "moreBits", "(I)I"⟩) := by decide +kernel
theorem mm_wc259 : Cond.code ⟨"PlainPacksModel", "moreFar", "(I)I"⟩ prog_14_method_88_code 1 (some .int) ∈ mm_tbl := mm_tb9 (j := 92) rfl
theorem mm_ws259 : tables_1[2011]? = some (.static ⟨"PlainPacksModel", "moreFar", "(I)I"⟩) := by decide +kernel
theorem mm_wc260 : Cond.code ⟨"PlainPacksModel", "packBlock", "()V"⟩ prog_14_method_89_code 4 none ∈ mm_tbl := mm_tb9 (j := 54) rfl
theorem mm_ws260 : tables_1[1973]? = some (.instanceMethod ⟨"PlainPacksModel", "packBlock", "()V"⟩) := by decide +kernel
theorem mm_we260 : Cond.selects "PlainPacksModel" ⟨"PlainPacksModel", "packBlock", "()V"⟩ ⟨"PlainPacksModel", "packBlock", "()V"⟩ ∈ mm_tbl := mm_tbF (List.mem_append_left _ (List.mem_of_getElem? (i := 138) (by decide +kernel)))
theorem mm_wc261 : Cond.code ⟨"PlainPacksModel", "packWords", "(IZ)V"⟩ prog_14_method_90_code 12 none ∈ mm_tbl := mm_tb9 (j := 100) rfl
theorem mm_ws261 : tables_1[2019]? = some (.instanceMethod ⟨"PlainPacksModel", "packWords", "(IZ)V"⟩) := by decide +kernel
theorem mm_we261 : Cond.selects "PlainPacksModel" ⟨"PlainPacksModel", "packWords", "(IZ)V"⟩ ⟨"PlainPacksModel", "packWords", "(IZ)V"⟩ ∈ mm_tbl := mm_tbF (List.mem_append_left _ (List.mem_of_getElem? (i := 145) (by decide +kernel)))
theorem mm_wc262 : Cond.code ⟨"PlainPacksModel", "stands", "(III)Z"⟩ prog_14_method_91_code 6 (some .boolean) ∈ mm_tbl := mm_tb9 (j := 104) rfl
theorem mm_ws262 : tables_1[2023]? = some (.instanceMethod ⟨"PlainPacksModel", "stands", "(III)Z"⟩) := by decide +kernel
theorem mm_we262 : Cond.selects "PlainPacksModel" ⟨"PlainPacksModel", "stands", "(III)Z"⟩ ⟨"PlainPacksModel", "stands", "(III)Z"⟩ ∈ mm_tbl := mm_tbF (List.mem_append_left _ (List.mem_of_getElem? (i := 146) (by decide +kernel)))
theorem mm_wc263 : Cond.code ⟨"PlainPacksModel", "writeGrown", "(I)V"⟩ prog_14_method_92_code 3 none ∈ mm_tbl := mm_tb9 (j := 116) rfl
theorem mm_ws263 : tables_1[2035]? = some (.instanceMethod ⟨"PlainPacksModel", "writeGrown", "(I)V"⟩) := by decide +kernel
theorem mm_we263 : Cond.selects "PlainPacksModel" ⟨"PlainPacksModel", "writeGrown", "(I)V"⟩ ⟨"PlainPacksModel", "writeGrown", "(I)V"⟩ ∈ mm_tbl := mm_tbF (List.mem_append_left _ (List.mem_of_getElem? (i := 149) (by decide +kernel)))
theorem mm_wc264 : Cond.code ⟨"PlainPacksModel", "writePiece", "(IIII)V"⟩ prog_14_method_93_code 8 none ∈ mm_tbl := mm_tb9 (j := 112) rfl
theorem mm_ws264 : tables_1[2031]? = some (.instanceMethod ⟨"PlainPacksModel", "writePiece", "(IIII)V"⟩) := by decide +kernel
theorem mm_we264 : Cond.selects "PlainPacksModel" ⟨"PlainPacksModel", "writePiece", "(IIII)V"⟩ ⟨"PlainPacksModel", "writePiece", "(IIII)V"⟩ ∈ mm_tbl := mm_tbF (List.mem_append_left _ (List.mem_of_getElem? (i := 148) (by decide +kernel)))
theorem mm_wc265 : Cond.code ⟨"PlainPacksModel", "packPieces", "()V"⟩ prog_14_method_94_code 3 none ∈ mm_tbl := mm_tb9 (j := 108) rfl
theorem mm_ws265 : tables_1[2027]? = some (.instanceMethod ⟨"PlainPacksModel", "packPieces", "()V"⟩) := by decide +kernel
theorem mm_we265 : Cond.selects "PlainPacksModel" ⟨"PlainPacksModel", "packPieces", "()V"⟩ ⟨"PlainPacksModel", "packPieces", "()V"⟩ ∈ mm_tbl := mm_tbF (List.mem_append_left _ (List.mem_of_getElem? (i := 147) (by decide +kernel)))
theorem mm_wc266 : Cond.code ⟨"PlainPacksModel", "packFrame", "()V"⟩ prog_14_method_95_code 4 none ∈ mm_tbl := mm_tb9 (j := 120) rfl
theorem mm_ws266 : tables_1[2039]? = some (.instanceMethod ⟨"PlainPacksModel", "packFrame", "()V"⟩) := by decide +kernel
theorem mm_we266 : Cond.selects "PlainPacksModel" ⟨"PlainPacksModel", "packFrame", "()V"⟩ ⟨"PlainPacksModel", "packFrame", "()V"⟩ ∈ mm_tbl := mm_tbF (List.mem_append_left _ (List.mem_of_getElem? (i := 150) (by decide +kernel)))
theorem mm_wc267 : Cond.code ⟨"PlainPacksModel", "writeTape", "(II)V"⟩ prog_14_method_96_code 4 none ∈ mm_tbl := mm_tb9 (j := 125) rfl
theorem mm_ws267 : tables_1[2044]? = some (.instanceMethod ⟨"PlainPacksModel", "writeTape", "(II)V"⟩) := by decide +kernel
theorem mm_we267 : Cond.selects "PlainPacksModel" ⟨"PlainPacksModel", "writeTape", "(II)V"⟩ ⟨"PlainPacksModel", "writeTape", "(II)V"⟩ ∈ mm_tbl := mm_tbF (List.mem_append_left _ (List.mem_of_getElem? (i := 151) (by decide +kernel)))
theorem mm_wc268 : Cond.code ⟨"PlainPacksModel", "writeTag", "(II)V"⟩ prog_14_method_97_code 4 none ∈ mm_tbl := mm_tb9 (j := 133) rfl
theorem mm_ws268 : tables_1[2052]? = some (.instanceMethod ⟨"PlainPacksModel", "writeTag", "(II)V"⟩) := by decide +kernel
theorem mm_we268 : Cond.selects "PlainPacksModel" ⟨"PlainPacksModel", "writeTag", "(II)V"⟩ ⟨"PlainPacksModel", "writeTag", "(II)V"⟩ ∈ mm_tbl := mm_tbF (List.mem_append_left _ (List.mem_of_getElem? (i := 153) (by decide +kernel)))
theorem mm_wc269 : Cond.code ⟨"PlainPacksModel", "packTags", "()V"⟩ prog_14_method_98_code 4 none ∈ mm_tbl := mm_tb9 (j := 129) rfl
theorem mm_ws269 : tables_1[2048]? = some (.instanceMethod ⟨"PlainPacksModel", "packTags", "()V"⟩) := by decide +kernel
theorem mm_we269 : Cond.selects "PlainPacksModel" ⟨"PlainPacksModel", "packTags", "()V"⟩ ⟨"PlainPacksModel", "packTags", "()V"⟩ ∈ mm_tbl := mm_tbF (List.mem_append_left _ (List.mem_of_getElem? (i := 152) (by decide +kernel)))
theorem mm_wc270 : Cond.code ⟨"PlainPacksModel", "compare", "(IIII)I"⟩ prog_14_method_99_code 6 (some .int) ∈ mm_tbl := mm_tb9 (j := 30) rfl
theorem mm_ws270 : tables_1[1949]? = some (.instanceMethod ⟨"PlainPacksModel", "compare", "(IIII)I"⟩) := by decide +kernel
theorem mm_we270 : Cond.selects "PlainPacksModel" ⟨"PlainPacksModel", "compare", "(IIII)I"⟩ ⟨"PlainPacksModel", "compare", "(IIII)I"⟩ ∈ mm_tbl := mm_tbF (List.mem_append_left _ (List.mem_of_getElem? (i := 133) (by decide +kernel)))
theorem mm_wc271 : Cond.code ⟨"PlainPacksModel", "sortBy", "(II)V"⟩ prog_14_method_100_code 5 none ∈ mm_tbl := mm_tb9 (j := 22) rfl
theorem mm_ws271 : tables_1[1941]? = some (.instanceMethod ⟨"PlainPacksModel", "sortBy", "(II)V"⟩) := by decide +kernel
theorem mm_we271 : Cond.selects "PlainPacksModel" ⟨"PlainPacksModel", "sortBy", "(II)V"⟩ ⟨"PlainPacksModel", "sortBy", "(II)V"⟩ ∈ mm_tbl := mm_tbF (List.mem_append_left _ (List.mem_of_getElem? (i := 131) (by decide +kernel)))
theorem mm_wc272 : Cond.code ⟨"PlainPacksModel", "mergeBy", "(IIIII)V"⟩ prog_14_method_101_code 10 none ∈ mm_tbl := mm_tb9 (j := 26) rfl
theorem mm_ws272 : tables_1[1945]? = some (.instanceMethod ⟨"PlainPacksModel", "mergeBy", "(IIIII)V"⟩) := by decide +kernel
theorem mm_we272 : Cond.selects "PlainPacksModel" ⟨"PlainPacksModel", "mergeBy", "(IIIII)V"⟩ ⟨"PlainPacksModel", "mergeBy", "(IIIII)V"⟩ ∈ mm_tbl := mm_tbF (List.mem_append_left _ (List.mem_of_getElem? (i := 132) (by decide +kernel)))
theorem mm_wc273 : Cond.code ⟨"PlainPacksModel", "turnAll", "(I)V"⟩ prog_14_method_102_code 5 none ∈ mm_tbl := mm_tb9 (j := 18) rfl
theorem mm_ws273 : tables_1[1937]? = some (.instanceMethod ⟨"PlainPacksModel", "turnAll", "(I)V"⟩) := by decide +kernel
theorem mm_we273 : Cond.selects "PlainPacksModel" ⟨"PlainPacksModel", "turnAll", "(I)V"⟩ ⟨"PlainPacksModel", "turnAll", "(I)V"⟩ ∈ mm_tbl := mm_tbF (List.mem_append_left _ (List.mem_of_getElem? (i := 130) (by decide +kernel)))
theorem mm_wc274 : Cond.code ⟨"PlainPacksModel", "turning", "(I)I"⟩ prog_14_method_103_code 3 (some .int) ∈ mm_tbl := mm_tb9 (j := 14) rfl
theorem mm_ws274 : tables_1[1932]? = some (.instanceMethod ⟨"PlainPacksModel", "turning", "(I)I"⟩) := by decide +kernel
theorem mm_we274 : Cond.selects "PlainPacksModel" ⟨"PlainPacksModel", "turning", "(I)I"⟩ ⟨"PlainPacksModel", "turning", "(I)I"⟩ ∈ mm_tbl := mm_tb (j := 1933) (by decide +kernel)
theorem mm_wc275 : Cond.code ⟨"PlainPacksModel", "counted", "()I"⟩ prog_14_method_104_code 5 (some .int) ∈ mm_tbl := mm_tb9 (j := 141) rfl
theorem mm_ws275 : tables_1[2060]? = some (.instanceMethod ⟨"PlainPacksModel", "counted", "()I"⟩) := by decide +kernel
theorem mm_we275 : Cond.selects "PlainPacksModel" ⟨"PlainPacksModel", "counted", "()I"⟩ ⟨"PlainPacksModel", "counted", "()I"⟩ ∈ mm_tbl := mm_tbF (List.mem_append_left _ (List.mem_of_getElem? (i := 155) (by decide +kernel)))
theorem mm_wc276 : Cond.code ⟨"PlainPacksModel", "packSorted", "()V"⟩ prog_14_method_105_code 4 none ∈ mm_tbl := mm_tb9 (j := 137) rfl
theorem mm_ws276 : tables_1[2056]? = some (.instanceMethod ⟨"PlainPacksModel", "packSorted", "()V"⟩) := by decide +kernel
theorem mm_we276 : Cond.selects "PlainPacksModel" ⟨"PlainPacksModel", "packSorted", "()V"⟩ ⟨"PlainPacksModel", "packSorted", "()V"⟩ ∈ mm_tbl := mm_tbF (List.mem_append_left _ (List.mem_of_getElem? (i := 154) (by decide +kernel)))
theorem mm_wc277 : Cond.code ⟨"PlainPacksModel", "writeOccurring", "(I)V"⟩ prog_14_method_106_code 5 none ∈ mm_tbl := mm_tb9 (j := 145) rfl
theorem mm_ws277 : tables_1[2064]? = some (.instanceMethod ⟨"PlainPacksModel", "writeOccurring", "(I)V"⟩) := by decide +kernel
theorem mm_we277 : Cond.selects "PlainPacksModel" ⟨"PlainPacksModel", "writeOccurring", "(I)V"⟩ ⟨"PlainPacksModel", "writeOccurring", "(I)V"⟩ ∈ mm_tbl := mm_tbF (List.mem_append_left _ (List.mem_of_getElem? (i := 156) (by decide +kernel)))
theorem mm_wc278 : Cond.code ⟨"PlainPacksModel", "letter", "(I)V"⟩ prog_14_method_107_code 2 none ∈ mm_tbl := mm_tb9 (j := 157) rfl
theorem mm_ws278 : tables_1[2076]? = some (.instanceMethod ⟨"PlainPacksModel", "letter", "(I)V"⟩) := by decide +kernel
theorem mm_we278 : Cond.selects "PlainPacksModel" ⟨"PlainPacksModel", "letter", "(I)V"⟩ ⟨"PlainPacksModel", "letter", "(I)V"⟩ ∈ mm_tbl := mm_tbF (List.mem_append_left _ (List.mem_of_getElem? (i := 159) (by decide +kernel)))
theorem mm_wc279 : Cond.code ⟨"PlainPacksModel", "runLetters", "(I)V"⟩ prog_14_method_108_code 3 none ∈ mm_tbl := mm_tb9 (j := 153) rfl
theorem mm_ws279 : tables_1[2072]? = some (.instanceMethod ⟨"PlainPacksModel", "runLetters", "(I)V"⟩) := by decide +kernel
theorem mm_we279 : Cond.selects "PlainPacksModel" ⟨"PlainPacksModel", "runLetters", "(I)V"⟩ ⟨"PlainPacksModel", "runLetters", "(I)V"⟩ ∈ mm_tbl := mm_tbF (List.mem_append_left _ (List.mem_of_getElem? (i := 158) (by decide +kernel)))
theorem mm_wc280 : Cond.code ⟨"PlainPacksModel", "writeSorted", "(I)V"⟩ prog_14_method_109_code 8 none ∈ mm_tbl := mm_tb9 (j := 149) rfl
theorem mm_ws280 : tables_1[2068]? = some (.instanceMethod ⟨"PlainPacksModel", "writeSorted", "(I)V"⟩) := by decide +kernel
theorem mm_we280 : Cond.selects "PlainPacksModel" ⟨"PlainPacksModel", "writeSorted", "(I)V"⟩ ⟨"PlainPacksModel", "writeSorted", "(I)V"⟩ ∈ mm_tbl := mm_tbF (List.mem_append_left _ (List.mem_of_getElem? (i := 157) (by decide +kernel)))
theorem mm_wc281 : Cond.code ⟨"PlainPacksModel", "carry", "()V"⟩ prog_14_method_110_code 2 none ∈ mm_tbl := mm_tb9 (j := 170) rfl
theorem mm_ws281 : tables_1[2089]? = some (.instanceMethod ⟨"PlainPacksModel", "carry", "()V"⟩) := by decide +kernel
theorem mm_we281 : Cond.selects "PlainPacksModel" ⟨"PlainPacksModel", "carry", "()V"⟩ ⟨"PlainPacksModel", "carry", "()V"⟩ ∈ mm_tbl := mm_tbF (List.mem_append_left _ (List.mem_of_getElem? (i := 162) (by decide +kernel)))
theorem mm_wc282 : Cond.code ⟨"PlainPacksModel", "tell", "(II)V"⟩ prog_14_method_111_code 5 none ∈ mm_tbl := mm_tb9 (j := 166) rfl
theorem mm_ws282 : tables_1[2085]? = some (.instanceMethod ⟨"PlainPacksModel", "tell", "(II)V"⟩) := by decide +kernel
theorem mm_we282 : Cond.selects "PlainPacksModel" ⟨"PlainPacksModel", "tell", "(II)V"⟩ ⟨"PlainPacksModel", "tell", "(II)V"⟩ ∈ mm_tbl := mm_tbF (List.mem_append_left _ (List.mem_of_getElem? (i := 161) (by decide +kernel)))
theorem mm_wc283 : Cond.code ⟨"PlainPacksModel", "packChances", "()V"⟩ prog_14_method_112_code 7 none ∈ mm_tbl := mm_tb9 (j := 161) rfl
theorem mm_ws283 : tables_1[2080]? = some (.instanceMethod ⟨"PlainPacksModel", "packChances", "()V"⟩) := by decide +kernel
theorem mm_we283 : Cond.selects "PlainPacksModel" ⟨"PlainPacksModel", "packChances", "()V"⟩ ⟨"PlainPacksModel", "packChances", "()V"⟩ ∈ mm_tbl := mm_tbF (List.mem_append_left _ (List.mem_of_getElem? (i := 160) (by decide +kernel)))
theorem mm_wc284 : Cond.code ⟨"PlainPacksModel", "pack", "(I)I"⟩ prog_14_method_113_code 3 (some .int) ∈ mm_tbl := mm_tb9 (j := 34) rfl
theorem mm_ws284 : tables_1[1952]? = some (.instanceMethod ⟨"PlainPacksModel", "pack", "(I)I"⟩) := by decide +kernel
theorem mm_we284 : Cond.selects "PlainPacksModel" ⟨"PlainPacksModel", "pack", "(I)I"⟩ ⟨"PlainPacksModel", "pack", "(I)I"⟩ ∈ mm_tbl := mm_tb (j := 1953) (by decide +kernel)
theorem mm_wc285 : Cond.code ⟨"PlainPacksModel", "packBlocks", "(I)V"⟩ prog_14_method_114_code 4 none ∈ mm_tbl := mm_tb9 (j := 50) rfl
theorem mm_ws285 : tables_1[1969]? = some (.instanceMethod ⟨"PlainPacksModel", "packBlocks", "(I)V"⟩) := by decide +kernel
theorem mm_we285 : Cond.selects "PlainPacksModel" ⟨"PlainPacksModel", "packBlocks", "(I)V"⟩ ⟨"PlainPacksModel", "packBlocks", "(I)V"⟩ ∈ mm_tbl := mm_tbF (List.mem_append_left _ (List.mem_of_getElem? (i := 137) (by decide +kernel)))
theorem mm_wc286 : Cond.code ⟨"PlainPacksModel", "lettersBits", "(I)I"⟩ prog_14_method_115_code 1 (some .int) ∈ mm_tbl := mm_tb9 (j := 177) rfl
theorem mm_ws286 : tables_1[2096]? = some (.static ⟨"PlainPacksModel", "lettersBits", "(I)I"⟩) := by decide +kernel
theorem mm_wc287 : Cond.code ⟨"PlainPacksModel", "least", "()I"⟩ prog_14_method_116_code 8 (some .int) ∈ mm_tbl := mm_tb9 (j := 174) rfl
theorem mm_ws287 : tables_1[2092]? = some (.instanceMethod ⟨"PlainPacksModel", "least", "()I"⟩) := by decide +kernel
theorem mm_we287 : Cond.selects "PlainPacksModel" ⟨"PlainPacksModel", "least", "()I"⟩ ⟨"PlainPacksModel", "least", "()I"⟩ ∈ mm_tbl := mm_tb (j := 2093) (by decide +kernel)
theorem mm_wc288 : Cond.code ⟨"PlainPacksModel", "lightest", "(I)I"⟩ prog_14_method_117_code 4 (some .int) ∈ mm_tbl := mm_tb9 (j := 185) rfl
theorem mm_ws288 : tables_1[2104]? = some (.instanceMethod ⟨"PlainPacksModel", "lightest", "(I)I"⟩) := by decide +kernel
theorem mm_we288 : Cond.selects "PlainPacksModel" ⟨"PlainPacksModel", "lightest", "(I)I"⟩ ⟨"PlainPacksModel", "lightest", "(I)I"⟩ ∈ mm_tbl := mm_tbF (List.mem_append_left _ (List.mem_of_getElem? (i := 163) (by decide +kernel)))
theorem mm_wc289 : Cond.code ⟨"PlainPacksModel", "length", "(I)I"⟩ prog_14_method_118_code 6 (some .int) ∈ mm_tbl := mm_tb9 (j := 181) rfl
theorem mm_ws289 : tables_1[2099]? = some (.instanceMethod ⟨"PlainPacksModel", "length", "(I)I"⟩) := by decide +kernel
theorem mm_we289 : Cond.selects "PlainPacksModel" ⟨"PlainPacksModel", "length", "(I)I"⟩ ⟨"PlainPacksModel", "length", "(I)I"⟩ ∈ mm_tbl := mm_tb (j := 2100) (by decide +kernel)
theorem mm_wc290 : Cond.code ⟨"java/util/Arrays", "fill", "([II)V"⟩ prog_25_method_103_code 4 none ∈ mm_tbl := mm_tb3 (j := 56) rfl
theorem mm_ws290 : tables_1[535]? = some (.static ⟨"java/util/Arrays", "fill", "([II)V"⟩) := by decide +kernel
