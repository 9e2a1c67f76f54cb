/-! THE TABLES' WORDS STAY as the tables grow warm; the outside stays -/
theorem mm_warm {s U : State} {args a' : Array Value} (hW : s.WarmedH U.vm) (hts : ∀ w ∈ mm_tbl, w.before args s = true) : ∀ w ∈ mm_tbl, w.before a' U = true := by
  intro w hw
  have h1 := (List.mem_filter.mp hw).2
  simp only [mm_wk, Bool.or_eq_true] at h1
  rcases h1 with h1 | h1
  · exact word_at hW (good_of_word h1) (hts w hw)
  · have h2 := hts w hw
    split at h1
    · exact va_tabs rfl (rfl : (s.setVm U.vm).vm = U.vm) (Cond.methodLinkNest_warmed (args := args) hW h2)
    · exact Cond.stringRef_warmed (args := args) hW h2
    · cases h1
/-- words on the exceptions' classes that are not among the tables' good ones -/
def mm_face : List Cond := [.castable (mm_en 0) (mm_en 0), .castable (mm_en 1) (mm_en 1), .castable (mm_en 2) (mm_en 2), .castable (mm_en 3) (mm_en 3), .declares ⟨"java/lang/RuntimeException", "<init>", "(Ljava/lang/String;)V"⟩, .declares ⟨"java/lang/Exception", "<init>", "(Ljava/lang/String;)V"⟩, .declares ⟨"java/lang/Throwable", "<init>", "(Ljava/lang/String;)V"⟩]
theorem mm_face_warm {s U : State} {args a' : Array Value} (hW : s.WarmedH U.vm) (h : ∀ w ∈ mm_face, w.before args s = true) : ∀ w ∈ mm_face, w.before a' U = true := by
  intro w hw
  have h1 : (w.onTables && w.keepsFace) = true := by
    have h2 : mm_face.all (fun w => w.onTables && w.keepsFace) = true := by decide +kernel
    exact List.all_eq_true.mp h2 w hw
  simp only [Bool.and_eq_true] at h1
  exact va_tabs h1.1 (rfl : (s.setVm U.vm).vm = U.vm) (Cond.before_shiftedFace (args := args) (State.Shifted.of_warmed hW) w h1.2 (h w hw))
/-- a static of Throwable that holds a reference or null, its cell out of what is written -/
def mm_Sz (n d : String) (A : Nat → Prop) (s : State) : Prop := ∃ (c : ClassId) (k : Class) (i : Nat) (f : Field) (a : Nat) (cell : Cell), s.vm.findClass "java/lang/Throwable" = some c ∧ s.fieldFound? "java/lang/Throwable" n d = some (c, k, i, f) ∧ f.isStatic = true ∧ k.statics = some a ∧ s.heap[a]? = some cell ∧ cell.vm.isStatics = true ∧ cell.cls = c ∧ f.slot < cell.slots.size ∧ k.staticTypes[f.slot]? = some f.type ∧ (cell.slots[f.slot]? = some .null ∨ ∃ t, cell.slots[f.slot]? = some (.ref t)) ∧ ¬ A a
theorem mm_Sz.moved {n d : String} {A : Nat → Prop} {s U : State} (hvm : s.vm.Alike U.vm) (hq : ∀ q : Nat, q < s.heap.size → ¬ A q → U.heap[q]? = s.heap[q]?) (h : mm_Sz n d A s) : mm_Sz n d A U := by
  obtain ⟨c, k, i, f, a, cell, h1, h2, h3, h4, h5, h6, h7, h8, h9, h10, h11⟩ := h
  obtain ⟨k', hi', he⟩ := State.fieldFound?_setVm hvm h2
  exact ⟨c, k', i, f, a, cell, by rw [hvm.findClass]; exact h1, hi', h3, by rw [he]; exact h4, by rw [hq a (Array.getElem?_eq_some_iff.mp h5).1 h11]; exact h5, h6, h7, h8, by rw [he]; exact h9, h10, h11⟩
theorem mm_Sz.lays {n d : String} {A : Nat → Prop} {s : State} {args : Array Value} (h : mm_Sz n d A s) : (Cond.laysStatic "java/lang/Throwable" n d).before args s = true := by
  obtain ⟨c, k, i, f, a, cell, h1, h2, h3, h4, h5, h6, h7, h8, h9, h10, h11⟩ := h
  simp [Cond.before, Cond.holds, Cond.value, h1, h2, h3, h4, h5, h6, h7, h8, h9]
theorem mm_Sz.ref {n d : String} {A : Nat → Prop} {s : State} {args : Array Value} (h : mm_Sz n d A s) : (Cond.isRef (.static "java/lang/Throwable" n d)).before args s = true := by
  obtain ⟨c, k, i, f, a, cell, h1, h2, h3, h4, h5, h6, h7, h8, h9, h10, h11⟩ := h
  rcases h10 with h10 | ⟨t, h10⟩ <;> simp [Cond.before, Cond.holds, Cond.value, Term.eval, State.fieldNamed?, h2, h3, h4, h5, h6, h10]
/-- what throws rest on, beside the tables -/
def mm_St (A : Nat → Prop) (s : State) : Prop := (∀ w ∈ mm_face, w.before #[] s = true) ∧ mm_Sz "UNASSIGNED_STACK" "[Ljava/lang/StackTraceElement;" A s ∧ mm_Sz "SUPPRESSED_SENTINEL" "Ljava/util/List;" A s
theorem mm_St.moved {A : Nat → Prop} {s U : State} (hW : s.WarmedH U.vm) (hq : ∀ q : Nat, q < s.heap.size → ¬ A q → U.heap[q]? = s.heap[q]?) (h : mm_St A s) : mm_St A U := ⟨mm_face_warm hW h.1, h.2.1.moved hW.alike hq, h.2.2.moved hW.alike hq⟩
theorem mm_Out.moved {A : Nat → Prop} {ad : Nat → Nat} {L : Nat} {xs : Nat → Int32} {s U : State} (hW : s.WarmedH U.vm) (hz : s.heap.size ≤ U.heap.size) (hq : ∀ q : Nat, q < s.heap.size → ¬ A q → U.heap[q]? = s.heap[q]?) (h : mm_Out A ad L xs s) : mm_Out A ad L xs U := by
  obtain ⟨h1, h2, h3, h4, h5⟩ := h
  exact ⟨va_X.moved hW.alike (h1.kept (hq _ h2 h3)), Nat.lt_of_lt_of_le h2 hz, h3, va_T.moved hW.alike (h4.kept hq), va_Z.moved hW.alike (h5.kept hq)⟩
