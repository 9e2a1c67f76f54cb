/-! A THROW OF ONE'S OWN -/
def mm_up : List String := ["java/lang/RuntimeException", "java/lang/Exception"]
def mm_spec : List Cond := [.laysStatic Bundle.tN "UNASSIGNED_STACK" Bundle.steD, .laysStatic Bundle.tN "SUPPRESSED_SENTINEL" Bundle.listD, .isRef (.static Bundle.tN "UNASSIGNED_STACK" Bundle.steD), .isRef (.static Bundle.tN "SUPPRESSED_SENTINEL" Bundle.listD)]
def mm_ato (X : String) : List Cond := Bundle.throwableAtoms ++ Bundle.throwableSAtoms ++ Bundle.chainSAtoms X mm_up ++
  [.instantiable X 6, .castable X X, .selects X Bundle.tFill0 Bundle.tFill0, .selects X Bundle.tFill Bundle.tFill,
   .lays X Bundle.tN "cause" "Ljava/lang/Throwable;", .lays X Bundle.tN "stackTrace" Bundle.steD, .lays X Bundle.tN "suppressedExceptions" Bundle.listD, .lays X Bundle.tN "detailMessage" "Ljava/lang/String;",
   .isRef (.static Bundle.tN "UNASSIGNED_STACK" Bundle.steD), .isRef (.static Bundle.tN "SUPPRESSED_SENTINEL" Bundle.listD),
   .fieldLink Bundle.tN 198 Bundle.tN "backtrace" "Ljava/lang/Object;", .lays Bundle.tN Bundle.tN "backtrace" "Ljava/lang/Object;", .lays X Bundle.tN "backtrace" "Ljava/lang/Object;"]
def mm_atk (X : String) : Bool := (mm_ato X).all (fun w => (decide (w ∈ lw_tbl) && mm_wk w) || decide (w ∈ mm_face) || decide (w ∈ mm_spec))
theorem mm_at0 : mm_atk (mm_en 0) = true := by decide +kernel
theorem mm_at1 : mm_atk (mm_en 1) = true := by decide +kernel
theorem mm_at2 : mm_atk (mm_en 2) = true := by decide +kernel
theorem mm_at3 : mm_atk (mm_en 3) = true := by decide +kernel
theorem mm_ini_e : ∀ x, x < 4 → Cond.initialized (mm_en x) ∈ mm_tbl ∧ Cond.instantiable (mm_en x) 6 ∈ mm_tbl := by
  intro x hx
  match x, hx with
  | 0, _ => exact ⟨mm_tb (j := 21) (by decide +kernel), mm_tb (j := 732) (by decide +kernel)⟩
  | 1, _ => exact ⟨mm_tb (j := 18) (by decide +kernel), mm_tb (j := 648) (by decide +kernel)⟩
  | 2, _ => exact ⟨mm_tb (j := 19) (by decide +kernel), mm_tb (j := 672) (by decide +kernel)⟩
  | 3, _ => exact ⟨mm_tb (j := 17) (by decide +kernel), mm_tb (j := 567) (by decide +kernel)⟩
  | n + 4, h => exact absurd h (by omega)
theorem mm_fit_e : ∀ x, x < 4 → Bundle.fit (mm_en x) = true := by
  intro x hx
  match x, hx with
  | 0, _ => decide +kernel
  | 1, _ => decide +kernel
  | 2, _ => decide +kernel
  | 3, _ => decide +kernel
  | n + 4, h => exact absurd h (by omega)
theorem mm_atoms {A : Nat → Prop} {s : State} {args : Array Value} (hts : ∀ w ∈ mm_tbl, w.before args s = true) (hSt : mm_St A s) {x : Nat} (hx : x < 4) {own : String} {ic : Nat} (hl : (Cond.methodLink own ic ⟨mm_en x, "<init>", "(Ljava/lang/String;)V"⟩).before args s = true) : ∀ w ∈ Bundle.ownAtoms own ic (mm_en x) mm_up, w.before args s = true := by
  have hk : mm_atk (mm_en x) = true := by
    match x, hx with
    | 0, _ => exact mm_at0
    | 1, _ => exact mm_at1
    | 2, _ => exact mm_at2
    | 3, _ => exact mm_at3
    | n + 4, h => exact absurd h (by omega)
  have key : ∀ w ∈ mm_ato (mm_en x), w.before args s = true := by
    intro w hw
    have h1 := List.all_eq_true.mp hk w hw
    simp only [Bool.or_eq_true, Bool.and_eq_true, decide_eq_true_eq] at h1
    rcases h1 with (h1 | h1) | h1
    · exact hts w (mm_tbF h1.1 h1.2)
    · exact mm_face_warm (State.WarmedH.refl s) hSt.1 w h1
    · simp only [mm_spec, List.mem_cons, List.not_mem_nil, or_false] at h1
      rcases h1 with rfl | rfl | rfl | rfl
      · exact hSt.2.1.lays
      · exact hSt.2.2.lays
      · exact hSt.2.1.ref
      · exact hSt.2.2.ref
  intro w hw
  simp only [Bundle.ownAtoms, List.mem_append, List.mem_cons, List.not_mem_nil, or_false] at hw
  by_cases hq : w = Cond.methodLink own ic (Bundle.initS (mm_en x))
  · rw [hq]; exact hl
  · refine key w ?_
    simp only [mm_ato, List.mem_append, List.mem_cons, List.not_mem_nil, or_false]
    rcases hw with h | h
    · exact Or.inl h
    · exact Or.inr (h.resolve_left hq)
