/-! THE SMALL MACHINE: Java's bytecode over a memory whose shape is fixed: places are numbers, references are constants; ints and longs alone change. Plain instructions (no heap, no call) first. -/
/-- a list's n-th -/
def mm_nth {α : Type} : List α → Nat → Option α
  | [], _ => none
  | a :: _, 0 => some a
  | _ :: l, n + 1 => mm_nth l n
theorem mm_nth_eq {α : Type} (l : List α) : ∀ n, mm_nth l n = l[n]? := by
  induction l with
  | nil => intro n; simp [mm_nth]
  | cons a l ih => intro n; cases n with
    | zero => simp [mm_nth]
    | succ n => simp [mm_nth, ih]
/-- a value: a place becomes its address -/
def mm_v (ad : Nat → Nat) : Value → Value
  | .ref p => .ref (ad p)
  | v => v
theorem mm_v_cat (ad : Nat → Nat) (v : Value) : (mm_v ad v).category = v.category := by cases v <;> rfl
/-- a value's own half is overwritten: a long before it is gone -/
def mm_no2 : Option Value → Option Value
  | some (.long _) => none
  | some (.double _) => none
  | x => x
/-- a store of a value of one word -/
def mm_st1 : List (Option Value) → Nat → Value → List (Option Value)
  | [], _, _ => []
  | _ :: r, 0, v => some v :: r
  | x :: [], 1, _ => mm_no2 x :: []
  | x :: _ :: r, 1, v => mm_no2 x :: some v :: r
  | x :: r, i + 2, v => x :: mm_st1 r (i + 1) v
/-- the place behind a long holds nothing -/
def mm_cut : List (Option Value) → Nat → List (Option Value)
  | [], _ => []
  | _ :: r, 0 => none :: r
  | x :: r, i + 1 => x :: mm_cut r i
def mm_st2 (lo : List (Option Value)) (i : Nat) (v : Value) : List (Option Value) := mm_cut (mm_st1 lo i v) (i + 1)
theorem mm_st1_len (v : Value) : ∀ (lo : List (Option Value)) (i : Nat), (mm_st1 lo i v).length = lo.length
  | [], i => by cases i <;> rfl
  | _ :: _, 0 => rfl
  | _ :: [], 1 => rfl
  | _ :: _ :: _, 1 => rfl
  | _ :: r, i + 2 => by simp only [mm_st1, List.length_cons, mm_st1_len v r (i + 1)]
theorem mm_cut_len : ∀ (lo : List (Option Value)) (i : Nat), (mm_cut lo i).length = lo.length
  | [], i => by cases i <;> rfl
  | _ :: _, 0 => rfl
  | _ :: r, i + 1 => by simp only [mm_cut, List.length_cons, mm_cut_len r i]
theorem mm_no2_some {x : Option Value} {v : Value} (h : mm_no2 x = some v) : x = some v ∧ v.category ≠ 2 := by
  cases x with
  | none => cases h
  | some y => cases y <;> first | (cases h; exact ⟨rfl, by decide⟩) | (simp [mm_no2] at h; try (subst h; exact ⟨rfl, by simp [Value.category]⟩))
theorem mm_st1_at (v : Value) : ∀ (lo : List (Option Value)) (i j : Nat) (w : Value), (mm_st1 lo i v)[j]? = some (some w) → (j = i ∧ w = v) ∨ (j ≠ i ∧ lo[j]? = some (some w) ∧ (j + 1 = i → w.category ≠ 2))
  | [], i, j, w, h => by cases i <;> simp [mm_st1] at h
  | x :: r, 0, j, w, h => by
    cases j with
    | zero => simp [mm_st1] at h; exact Or.inl ⟨rfl, h.symm⟩
    | succ j => simp [mm_st1] at h; exact Or.inr ⟨by omega, by simpa using h, fun q => by omega⟩
  | x :: [], 1, j, w, h => by
    cases j with
    | zero => simp [mm_st1] at h; obtain ⟨h1, h2⟩ := mm_no2_some h; exact Or.inr ⟨by omega, by simp [h1], fun _ => h2⟩
    | succ j => simp [mm_st1] at h
  | x :: y :: r, 1, j, w, h => by
    match j, h with
    | 0, h => simp [mm_st1] at h; obtain ⟨h1, h2⟩ := mm_no2_some h; exact Or.inr ⟨by omega, by simp [h1], fun _ => h2⟩
    | 1, h => simp [mm_st1] at h; exact Or.inl ⟨rfl, h.symm⟩
    | j + 2, h => simp [mm_st1] at h; exact Or.inr ⟨by omega, by simpa using h, fun q => by omega⟩
  | x :: r, i + 2, j, w, h => by
    cases j with
    | zero => simp [mm_st1] at h; exact Or.inr ⟨by omega, by simp [h], fun q => by omega⟩
    | succ j =>
      simp only [mm_st1, List.getElem?_cons_succ] at h
      rcases mm_st1_at v r (i + 1) j w h with ⟨a, b⟩ | ⟨a, b, c⟩
      · exact Or.inl ⟨by omega, b⟩
      · exact Or.inr ⟨by omega, by simpa using b, fun q => c (by omega)⟩
theorem mm_cut_at : ∀ (lo : List (Option Value)) (i j : Nat) (w : Value), (mm_cut lo i)[j]? = some (some w) → j ≠ i ∧ lo[j]? = some (some w)
  | [], i, j, w, h => by cases i <;> simp [mm_cut] at h
  | x :: r, 0, j, w, h => by
    cases j with
    | zero => simp [mm_cut] at h
    | succ j => simp [mm_cut] at h; exact ⟨by omega, by simpa using h⟩
  | x :: r, i + 1, j, w, h => by
    cases j with
    | zero => simp [mm_cut] at h; exact ⟨by omega, by simp [h]⟩
    | succ j =>
      simp only [mm_cut, List.getElem?_cons_succ] at h
      obtain ⟨a, b⟩ := mm_cut_at r i j w h
      exact ⟨by omega, by simpa using b⟩
/-- the real locals hold what the small ones list -/
def mm_has (ad : Nat → Nat) (lo : List (Option Value)) (ls : Array Slot) : Prop := ls.size = lo.length ∧ lv_wf ls ∧ ∀ (i : Nat) (v : Value), lo[i]? = some (some v) → ls[i]? = some (.val (mm_v ad v))
def mm_lv (ad : Nat → Nat) (lo : List (Option Value)) : List (Nat × Value) := (List.range lo.length).filterMap (fun i => (lo[i]?).join.map (fun v => (i, mm_v ad v)))
theorem mm_lv_mem {ad : Nat → Nat} {lo : List (Option Value)} {i : Nat} {w : Value} : (i, w) ∈ mm_lv ad lo ↔ ∃ v, lo[i]? = some (some v) ∧ w = mm_v ad v := by
  unfold mm_lv
  rw [List.mem_filterMap]
  constructor
  · rintro ⟨j, hj, h⟩
    cases hl : lo[j]? with
    | none => rw [hl] at h; simp at h
    | some o =>
      cases o with
      | none => rw [hl] at h; simp at h
      | some v => rw [hl] at h; simp at h; obtain ⟨a, b⟩ := h; subst a; exact ⟨v, hl, b.symm⟩
  · rintro ⟨v, hv, rfl⟩
    exact ⟨i, List.mem_range.mpr (List.getElem?_eq_some_iff.mp hv).1, by rw [hv]; rfl⟩
theorem mm_has.lv {ad : Nat → Nat} {lo : List (Option Value)} {ls : Array Slot} (h : mm_has ad lo ls) : lv_has ls lo.length (mm_lv ad lo) := by
  refine ⟨h.1, h.2.1, fun q hq => ?_⟩
  obtain ⟨i, w⟩ := q
  obtain ⟨v, hv, rfl⟩ := mm_lv_mem.mp hq
  exact h.2.2 i v hv
theorem mm_has.at {ad : Nat → Nat} {lo : List (Option Value)} {ls : Array Slot} (h : mm_has ad lo ls) {i : Nat} {v : Value} (hv : mm_nth lo i = some (some v)) : ls[i]? = some (.val (mm_v ad v)) := h.2.2 i v (by rw [← mm_nth_eq]; exact hv)
theorem mm_has.st1 {ad : Nat → Nat} {lo : List (Option Value)} {ls : Array Slot} {i : Nat} {v : Value} (h : lv_has ls lo.length ((i, mm_v ad v) :: (mm_lv ad lo).filter (fun q => !(q.1 == i) && !(q.1 + 1 == i && q.2.category == 2)))) : mm_has ad (mm_st1 lo i v) ls := by
  refine ⟨by rw [mm_st1_len]; exact h.1, h.2.1, fun j w hw => ?_⟩
  rcases mm_st1_at v lo i j w hw with ⟨a, b⟩ | ⟨a, b, c⟩
  · subst a; subst b; exact h.2.2 (j, mm_v ad w) List.mem_cons_self
  · refine h.2.2 (j, mm_v ad w) (List.mem_cons_of_mem _ (List.mem_filter.mpr ⟨mm_lv_mem.mpr ⟨w, b, rfl⟩, ?_⟩))
    by_cases q : j + 1 = i
    · simp [a, q, mm_v_cat, c q]
    · simp [a, q]
theorem mm_has.st2 {ad : Nat → Nat} {lo : List (Option Value)} {ls : Array Slot} {i : Nat} {v : Value} (h : lv_has ls lo.length ((i, mm_v ad v) :: (mm_lv ad lo).filter (fun q => !(q.1 == i) && (!(q.1 == i + 1) && !(q.1 + 1 == i && q.2.category == 2))))) : mm_has ad (mm_st2 lo i v) ls := by
  refine ⟨by rw [mm_st2, mm_cut_len, mm_st1_len]; exact h.1, h.2.1, fun j w hw => ?_⟩
  obtain ⟨n1, hw⟩ := mm_cut_at _ _ _ _ hw
  rcases mm_st1_at v lo i j w hw with ⟨a, b⟩ | ⟨a, b, c⟩
  · subst a; subst b; exact h.2.2 (j, mm_v ad w) List.mem_cons_self
  · refine h.2.2 (j, mm_v ad w) (List.mem_cons_of_mem _ (List.mem_filter.mpr ⟨mm_lv_mem.mpr ⟨w, b, rfl⟩, ?_⟩))
    by_cases q : j + 1 = i
    · simp [a, n1, q, mm_v_cat, c q]
    · simp [a, n1, q]
theorem mm_lv_idx {ad : Nat → Nat} {lo : List (Option Value)} {i : Nat} {v : Value} (h : mm_nth lo i = some (some v)) : ∃ k : Nat, (mm_lv ad lo)[k]? = some (i, mm_v ad v) := by
  rw [mm_nth_eq] at h
  exact List.getElem?_of_mem (mm_lv_mem.mpr ⟨v, h, rfl⟩)

/-- a plain instruction: the next pc, locals and stack -/
def mm_pure (ins : Instr) (pc len : Nat) (lo : List (Option Value)) (st : List Value) : Option (Nat × List (Option Value) × List Value) :=
  match ins with
  | .iconst n => some (pc + len, lo, .int (Int32.ofInt n) :: st)
  | .bipush n => some (pc + len, lo, .int (Int8.ofInt n).toInt32 :: st)
  | .sipush n => some (pc + len, lo, .int (Int16.ofInt n).toInt32 :: st)
  | .lconst n => some (pc + len, lo, .long (Int64.ofNat n) :: st)
  | .iload i => match mm_nth lo i with | some (some (.int x)) => some (pc + len, lo, .int x :: st) | _ => none
  | .iload_n i => match mm_nth lo i with | some (some (.int x)) => some (pc + len, lo, .int x :: st) | _ => none
  | .lload i => match mm_nth lo i with | some (some (.long x)) => some (pc + len, lo, .long x :: st) | _ => none
  | .lload_n i => match mm_nth lo i with | some (some (.long x)) => some (pc + len, lo, .long x :: st) | _ => none
  | .aload i => match mm_nth lo i with | some (some (.ref x)) => some (pc + len, lo, .ref x :: st) | _ => none
  | .aload_n i => match mm_nth lo i with | some (some (.ref x)) => some (pc + len, lo, .ref x :: st) | _ => none
  | .istore i => match st with | .int x :: r => bif decide (i < lo.length) then some (pc + len, mm_st1 lo i (.int x), r) else none | _ => none
  | .istore_n i => match st with | .int x :: r => bif decide ((i : Nat) < lo.length) then some (pc + len, mm_st1 lo i (.int x), r) else none | _ => none
  | .lstore i => match st with | .long x :: r => bif decide (i + 1 < lo.length) then some (pc + len, mm_st2 lo i (.long x), r) else none | _ => none
  | .lstore_n i => match st with | .long x :: r => bif decide ((i : Nat) + 1 < lo.length) then some (pc + len, mm_st2 lo i (.long x), r) else none | _ => none
  | .astore i => match st with | .ref x :: r => bif decide (i < lo.length) then some (pc + len, mm_st1 lo i (.ref x), r) else none | _ => none
  | .astore_n i => match st with | .ref x :: r => bif decide ((i : Nat) < lo.length) then some (pc + len, mm_st1 lo i (.ref x), r) else none | _ => none
  | .iinc i n => match mm_nth lo i with | some (some (.int x)) => bif decide (i < lo.length) then some (pc + len, mm_st1 lo i (.int (x + Int32.ofInt n)), st) else none | _ => none
  | .iadd => match st with | .int y :: .int x :: r => some (pc + len, lo, .int (x + y) :: r) | _ => none
  | .isub => match st with | .int y :: .int x :: r => some (pc + len, lo, .int (x - y) :: r) | _ => none
  | .imul => match st with | .int y :: .int x :: r => some (pc + len, lo, .int (x * y) :: r) | _ => none
  | .iand => match st with | .int y :: .int x :: r => some (pc + len, lo, .int (x &&& y) :: r) | _ => none
  | .ior => match st with | .int y :: .int x :: r => some (pc + len, lo, .int (x ||| y) :: r) | _ => none
  | .ixor => match st with | .int y :: .int x :: r => some (pc + len, lo, .int (x ^^^ y) :: r) | _ => none
  | .ishl => match st with | .int y :: .int x :: r => some (pc + len, lo, .int (x <<< (y &&& 31)) :: r) | _ => none
  | .ishr => match st with | .int y :: .int x :: r => some (pc + len, lo, .int (x >>> (y &&& 31)) :: r) | _ => none
  | .iushr => match st with | .int y :: .int x :: r => some (pc + len, lo, .int ((x.toUInt32 >>> (y.toUInt32 &&& Int32.toUInt32 31)).toInt32) :: r) | _ => none
  | .idiv => match st with | .int y :: .int x :: r => bif y == 0 then none else some (pc + len, lo, .int (x / y) :: r) | _ => none
  | .irem => match st with | .int y :: .int x :: r => bif y == 0 then none else some (pc + len, lo, .int (x - x / y * y) :: r) | _ => none
  | .ineg => match st with | .int x :: r => some (pc + len, lo, .int (-x) :: r) | _ => none
  | .ladd => match st with | .long y :: .long x :: r => some (pc + len, lo, .long (x + y) :: r) | _ => none
  | .lsub => match st with | .long y :: .long x :: r => some (pc + len, lo, .long (x - y) :: r) | _ => none
  | .lmul => match st with | .long y :: .long x :: r => some (pc + len, lo, .long (x * y) :: r) | _ => none
  | .land => match st with | .long y :: .long x :: r => some (pc + len, lo, .long (x &&& y) :: r) | _ => none
  | .lor => match st with | .long y :: .long x :: r => some (pc + len, lo, .long (x ||| y) :: r) | _ => none
  | .lxor => match st with | .long y :: .long x :: r => some (pc + len, lo, .long (x ^^^ y) :: r) | _ => none
  | .ldiv => match st with | .long y :: .long x :: r => bif y == 0 then none else some (pc + len, lo, .long (x / y) :: r) | _ => none
  | .lshl => match st with | .int y :: .long x :: r => some (pc + len, lo, .long (x <<< (y.toInt64 &&& 63)) :: r) | _ => none
  | .lshr => match st with | .int y :: .long x :: r => some (pc + len, lo, .long (x >>> (y.toInt64 &&& 63)) :: r) | _ => none
  | .lushr => match st with | .int y :: .long x :: r => some (pc + len, lo, .long ((x.toUInt64 >>> (y.toInt64.toUInt64 &&& Int64.toUInt64 63)).toInt64) :: r) | _ => none
  | .i2l => match st with | .int x :: r => some (pc + len, lo, .long x.toInt64 :: r) | _ => none
  | .l2i => match st with | .long x :: r => some (pc + len, lo, .int x.toInt32 :: r) | _ => none
  | .lcmp => match st with | .long y :: .long x :: r => some (pc + len, lo, .int (lg_cmp x y) :: r) | _ => none
  | .dup => match st with | a :: r => bif a.category == 1 then some (pc + len, lo, a :: a :: r) else none | _ => none
  | .pop => match st with | a :: r => bif a.category == 1 then some (pc + len, lo, r) else none | _ => none
  | .dup2 => match st with | a :: b :: r => bif a.category == 1 && b.category == 1 then some (pc + len, lo, a :: b :: a :: b :: r) else none | _ => none
  | .pop2 => match st with | a :: r => bif a.category == 2 then some (pc + len, lo, r) else none | _ => none
  | .ifCond .eq off => match st with | .int x :: r => bif decide (0 ≤ (pc : Int) + off) then some (bif x == 0 then ((pc : Int) + off).toNat else pc + len, lo, r) else none | _ => none
  | .if_icmp .eq off => match st with | .int y :: .int x :: r => bif decide (0 ≤ (pc : Int) + off) then some (bif x == y then ((pc : Int) + off).toNat else pc + len, lo, r) else none | _ => none
  | .ifCond .ne off => match st with | .int x :: r => bif decide (0 ≤ (pc : Int) + off) then some (bif !(x == 0) then ((pc : Int) + off).toNat else pc + len, lo, r) else none | _ => none
  | .if_icmp .ne off => match st with | .int y :: .int x :: r => bif decide (0 ≤ (pc : Int) + off) then some (bif !(x == y) then ((pc : Int) + off).toNat else pc + len, lo, r) else none | _ => none
  | .ifCond .lt off => match st with | .int x :: r => bif decide (0 ≤ (pc : Int) + off) then some (bif decide (x < 0) then ((pc : Int) + off).toNat else pc + len, lo, r) else none | _ => none
  | .if_icmp .lt off => match st with | .int y :: .int x :: r => bif decide (0 ≤ (pc : Int) + off) then some (bif decide (x < y) then ((pc : Int) + off).toNat else pc + len, lo, r) else none | _ => none
  | .ifCond .ge off => match st with | .int x :: r => bif decide (0 ≤ (pc : Int) + off) then some (bif decide (0 ≤ x) then ((pc : Int) + off).toNat else pc + len, lo, r) else none | _ => none
  | .if_icmp .ge off => match st with | .int y :: .int x :: r => bif decide (0 ≤ (pc : Int) + off) then some (bif decide (y ≤ x) then ((pc : Int) + off).toNat else pc + len, lo, r) else none | _ => none
  | .ifCond .gt off => match st with | .int x :: r => bif decide (0 ≤ (pc : Int) + off) then some (bif decide (0 < x) then ((pc : Int) + off).toNat else pc + len, lo, r) else none | _ => none
  | .if_icmp .gt off => match st with | .int y :: .int x :: r => bif decide (0 ≤ (pc : Int) + off) then some (bif decide (y < x) then ((pc : Int) + off).toNat else pc + len, lo, r) else none | _ => none
  | .ifCond .le off => match st with | .int x :: r => bif decide (0 ≤ (pc : Int) + off) then some (bif decide (x ≤ 0) then ((pc : Int) + off).toNat else pc + len, lo, r) else none | _ => none
  | .if_icmp .le off => match st with | .int y :: .int x :: r => bif decide (0 ≤ (pc : Int) + off) then some (bif decide (x ≤ y) then ((pc : Int) + off).toNat else pc + len, lo, r) else none | _ => none
  | .goto off => bif decide (0 ≤ (pc : Int) + off) then some (((pc : Int) + off).toNat, lo, st) else none
  | _ => none
/-- the length that an instruction has -/
def mm_okl (ins : Instr) (len : Nat) : Bool :=
  match ins with
  | .bipush _ | .iload _ | .lload _ | .aload _ | .istore _ | .lstore _ | .astore _ => len == 2
  | .sipush _ | .ifCond _ _ | .if_icmp _ _ | .goto _ => len == 3
  | .iinc _ _ => len == 3 || len == 6
  | _ => len == 1
section MM
variable {p : Program} {l : Launch} {e : Env} {R : Room} {s : State} {m : MethodId} {args : Array Value} {below : List Frame} {meth : Method} {c : Code} {H : Heap} {locs : List Loc} {cells slots : Nat} {Q : State → Prop}
variable {cc : ByteArray} {pc len : Nat} {ls : Array Slot} {lo : List (Option Value)} {st : List Value} {ad : Nat → Nat}
theorem mm_k_iconst (hx : p.tables.exec = Jvm.exec) (hb : c.code = cc) (hl : mm_has ad lo ls) {n : Int} (hd : decode cc pc = .ok (.iconst n, len)) (hk : mm_okl (.iconst n) len = true) {pc2 : Nat} {lo2 : List (Option Value)} {st2 : List Value} (h : mm_pure (.iconst n) pc len lo st = some (pc2, lo2, st2)) (k : ∀ ls2, mm_has ad lo2 ls2 → W p l e R s m args below meth c H locs cells slots Q (F0 m pc2 ls2 (st2.map (mm_v ad)))) : W p l e R s m args below meth c H locs cells slots Q (F0 m pc ls (st.map (mm_v ad))) := by
  have hk : len = 1 := by simpa [mm_okl] using hk
  subst hk
  simp only [mm_pure, Option.some.injEq, Prod.mk.injEq] at h; obtain ⟨rfl, rfl, rfl⟩ := h
  exact lv_iconst hx hb hd rfl (k ls hl)
theorem mm_k_bipush (hx : p.tables.exec = Jvm.exec) (hb : c.code = cc) (hl : mm_has ad lo ls) {n : Int} (hd : decode cc pc = .ok (.bipush n, len)) (hk : mm_okl (.bipush n) len = true) {pc2 : Nat} {lo2 : List (Option Value)} {st2 : List Value} (h : mm_pure (.bipush n) pc len lo st = some (pc2, lo2, st2)) (k : ∀ ls2, mm_has ad lo2 ls2 → W p l e R s m args below meth c H locs cells slots Q (F0 m pc2 ls2 (st2.map (mm_v ad)))) : W p l e R s m args below meth c H locs cells slots Q (F0 m pc ls (st.map (mm_v ad))) := by
  have hk : len = 2 := by simpa [mm_okl] using hk
  subst hk
  simp only [mm_pure, Option.some.injEq, Prod.mk.injEq] at h; obtain ⟨rfl, rfl, rfl⟩ := h
  exact lv_bipush hx hb hd rfl (k ls hl)
theorem mm_k_sipush (hx : p.tables.exec = Jvm.exec) (hb : c.code = cc) (hl : mm_has ad lo ls) {n : Int} (hd : decode cc pc = .ok (.sipush n, len)) (hk : mm_okl (.sipush n) len = true) {pc2 : Nat} {lo2 : List (Option Value)} {st2 : List Value} (h : mm_pure (.sipush n) pc len lo st = some (pc2, lo2, st2)) (k : ∀ ls2, mm_has ad lo2 ls2 → W p l e R s m args below meth c H locs cells slots Q (F0 m pc2 ls2 (st2.map (mm_v ad)))) : W p l e R s m args below meth c H locs cells slots Q (F0 m pc ls (st.map (mm_v ad))) := by
  have hk : len = 3 := by simpa [mm_okl] using hk
  subst hk
  simp only [mm_pure, Option.some.injEq, Prod.mk.injEq] at h; obtain ⟨rfl, rfl, rfl⟩ := h
  exact lv_sipush hx hb hd rfl (k ls hl)
theorem mm_k_lconst (hx : p.tables.exec = Jvm.exec) (hb : c.code = cc) (hl : mm_has ad lo ls) {n : Fin 2} (hd : decode cc pc = .ok (.lconst n, len)) (hk : mm_okl (.lconst n) len = true) {pc2 : Nat} {lo2 : List (Option Value)} {st2 : List Value} (h : mm_pure (.lconst n) pc len lo st = some (pc2, lo2, st2)) (k : ∀ ls2, mm_has ad lo2 ls2 → W p l e R s m args below meth c H locs cells slots Q (F0 m pc2 ls2 (st2.map (mm_v ad)))) : W p l e R s m args below meth c H locs cells slots Q (F0 m pc ls (st.map (mm_v ad))) := by
  have hk : len = 1 := by simpa [mm_okl] using hk
  subst hk
  simp only [mm_pure, Option.some.injEq, Prod.mk.injEq] at h; obtain ⟨rfl, rfl, rfl⟩ := h
  exact lv_lconst hx hb hd rfl (k ls hl)
theorem mm_k_iload (hx : p.tables.exec = Jvm.exec) (hb : c.code = cc) (hl : mm_has ad lo ls) {i : Nat} (hd : decode cc pc = .ok (.iload i, len)) (hk : mm_okl (.iload i) len = true) {pc2 : Nat} {lo2 : List (Option Value)} {st2 : List Value} (h : mm_pure (.iload i) pc len lo st = some (pc2, lo2, st2)) (k : ∀ ls2, mm_has ad lo2 ls2 → W p l e R s m args below meth c H locs cells slots Q (F0 m pc2 ls2 (st2.map (mm_v ad)))) : W p l e R s m args below meth c H locs cells slots Q (F0 m pc ls (st.map (mm_v ad))) := by
  have hk : len = 2 := by simpa [mm_okl] using hk
  subst hk
  simp only [mm_pure] at h
  split at h
  · rename_i x hv; simp only [Option.some.injEq, Prod.mk.injEq] at h; obtain ⟨rfl, rfl, rfl⟩ := h; exact lv_iload hx hb hd (hl.at hv) (k ls hl)
  · cases h
theorem mm_k_iload_n (hx : p.tables.exec = Jvm.exec) (hb : c.code = cc) (hl : mm_has ad lo ls) {i : Fin 4} (hd : decode cc pc = .ok (.iload_n i, len)) (hk : mm_okl (.iload_n i) len = true) {pc2 : Nat} {lo2 : List (Option Value)} {st2 : List Value} (h : mm_pure (.iload_n i) pc len lo st = some (pc2, lo2, st2)) (k : ∀ ls2, mm_has ad lo2 ls2 → W p l e R s m args below meth c H locs cells slots Q (F0 m pc2 ls2 (st2.map (mm_v ad)))) : W p l e R s m args below meth c H locs cells slots Q (F0 m pc ls (st.map (mm_v ad))) := by
  have hk : len = 1 := by simpa [mm_okl] using hk
  subst hk
  simp only [mm_pure] at h
  split at h
  · rename_i x hv; simp only [Option.some.injEq, Prod.mk.injEq] at h; obtain ⟨rfl, rfl, rfl⟩ := h; exact lv_iload_n hx hb hd rfl (hl.at hv) (k ls hl)
  · cases h
theorem mm_k_lload (hx : p.tables.exec = Jvm.exec) (hb : c.code = cc) (hl : mm_has ad lo ls) {i : Nat} (hd : decode cc pc = .ok (.lload i, len)) (hk : mm_okl (.lload i) len = true) {pc2 : Nat} {lo2 : List (Option Value)} {st2 : List Value} (h : mm_pure (.lload i) pc len lo st = some (pc2, lo2, st2)) (k : ∀ ls2, mm_has ad lo2 ls2 → W p l e R s m args below meth c H locs cells slots Q (F0 m pc2 ls2 (st2.map (mm_v ad)))) : W p l e R s m args below meth c H locs cells slots Q (F0 m pc ls (st.map (mm_v ad))) := by
  have hk : len = 2 := by simpa [mm_okl] using hk
  subst hk
  simp only [mm_pure] at h
  split at h
  · rename_i x hv; simp only [Option.some.injEq, Prod.mk.injEq] at h; obtain ⟨rfl, rfl, rfl⟩ := h; exact lv_lload hx hb hd (hl.at hv) (k ls hl)
  · cases h
theorem mm_k_lload_n (hx : p.tables.exec = Jvm.exec) (hb : c.code = cc) (hl : mm_has ad lo ls) {i : Fin 4} (hd : decode cc pc = .ok (.lload_n i, len)) (hk : mm_okl (.lload_n i) len = true) {pc2 : Nat} {lo2 : List (Option Value)} {st2 : List Value} (h : mm_pure (.lload_n i) pc len lo st = some (pc2, lo2, st2)) (k : ∀ ls2, mm_has ad lo2 ls2 → W p l e R s m args below meth c H locs cells slots Q (F0 m pc2 ls2 (st2.map (mm_v ad)))) : W p l e R s m args below meth c H locs cells slots Q (F0 m pc ls (st.map (mm_v ad))) := by
  have hk : len = 1 := by simpa [mm_okl] using hk
  subst hk
  simp only [mm_pure] at h
  split at h
  · rename_i x hv; simp only [Option.some.injEq, Prod.mk.injEq] at h; obtain ⟨rfl, rfl, rfl⟩ := h; exact lv_lload_n hx hb hd rfl (hl.at hv) (k ls hl)
  · cases h
theorem mm_k_aload (hx : p.tables.exec = Jvm.exec) (hb : c.code = cc) (hl : mm_has ad lo ls) {i : Nat} (hd : decode cc pc = .ok (.aload i, len)) (hk : mm_okl (.aload i) len = true) {pc2 : Nat} {lo2 : List (Option Value)} {st2 : List Value} (h : mm_pure (.aload i) pc len lo st = some (pc2, lo2, st2)) (k : ∀ ls2, mm_has ad lo2 ls2 → W p l e R s m args below meth c H locs cells slots Q (F0 m pc2 ls2 (st2.map (mm_v ad)))) : W p l e R s m args below meth c H locs cells slots Q (F0 m pc ls (st.map (mm_v ad))) := by
  have hk : len = 2 := by simpa [mm_okl] using hk
  subst hk
  simp only [mm_pure] at h
  split at h
  · rename_i x hv; simp only [Option.some.injEq, Prod.mk.injEq] at h; obtain ⟨rfl, rfl, rfl⟩ := h; exact lv_aload hx hb hd (hl.at hv) (k ls hl)
  · cases h
theorem mm_k_aload_n (hx : p.tables.exec = Jvm.exec) (hb : c.code = cc) (hl : mm_has ad lo ls) {i : Fin 4} (hd : decode cc pc = .ok (.aload_n i, len)) (hk : mm_okl (.aload_n i) len = true) {pc2 : Nat} {lo2 : List (Option Value)} {st2 : List Value} (h : mm_pure (.aload_n i) pc len lo st = some (pc2, lo2, st2)) (k : ∀ ls2, mm_has ad lo2 ls2 → W p l e R s m args below meth c H locs cells slots Q (F0 m pc2 ls2 (st2.map (mm_v ad)))) : W p l e R s m args below meth c H locs cells slots Q (F0 m pc ls (st.map (mm_v ad))) := by
  have hk : len = 1 := by simpa [mm_okl] using hk
  subst hk
  simp only [mm_pure] at h
  split at h
  · rename_i x hv; simp only [Option.some.injEq, Prod.mk.injEq] at h; obtain ⟨rfl, rfl, rfl⟩ := h; exact lv_aload_n hx hb hd rfl (hl.at hv) (k ls hl)
  · cases h
theorem mm_k_istore (hx : p.tables.exec = Jvm.exec) (hb : c.code = cc) (hl : mm_has ad lo ls) {i : Nat} (hd : decode cc pc = .ok (.istore i, len)) (hk : mm_okl (.istore i) len = true) {pc2 : Nat} {lo2 : List (Option Value)} {st2 : List Value} (h : mm_pure (.istore i) pc len lo st = some (pc2, lo2, st2)) (k : ∀ ls2, mm_has ad lo2 ls2 → W p l e R s m args below meth c H locs cells slots Q (F0 m pc2 ls2 (st2.map (mm_v ad)))) : W p l e R s m args below meth c H locs cells slots Q (F0 m pc ls (st.map (mm_v ad))) := by
  have hk : len = 2 := by simpa [mm_okl] using hk
  subst hk
  simp only [mm_pure] at h
  split at h
  · rename_i x r; rw [cond_eq_if] at h; split at h
    · rename_i hi; simp only [Option.some.injEq, Prod.mk.injEq] at h; obtain ⟨rfl, rfl, rfl⟩ := h; exact lv_istore hx hb hd hl.lv (of_decide_eq_true hi) rfl (fun ls2 h2 => k ls2 (mm_has.st1 (v := .int x) h2))
    · cases h
  · cases h
theorem mm_k_istore_n (hx : p.tables.exec = Jvm.exec) (hb : c.code = cc) (hl : mm_has ad lo ls) {i : Fin 4} (hd : decode cc pc = .ok (.istore_n i, len)) (hk : mm_okl (.istore_n i) len = true) {pc2 : Nat} {lo2 : List (Option Value)} {st2 : List Value} (h : mm_pure (.istore_n i) pc len lo st = some (pc2, lo2, st2)) (k : ∀ ls2, mm_has ad lo2 ls2 → W p l e R s m args below meth c H locs cells slots Q (F0 m pc2 ls2 (st2.map (mm_v ad)))) : W p l e R s m args below meth c H locs cells slots Q (F0 m pc ls (st.map (mm_v ad))) := by
  have hk : len = 1 := by simpa [mm_okl] using hk
  subst hk
  simp only [mm_pure] at h
  split at h
  · rename_i x r; rw [cond_eq_if] at h; split at h
    · rename_i hi; simp only [Option.some.injEq, Prod.mk.injEq] at h; obtain ⟨rfl, rfl, rfl⟩ := h; exact lv_istore_n hx hb hd rfl hl.lv (of_decide_eq_true hi) rfl (fun ls2 h2 => k ls2 (mm_has.st1 (v := .int x) h2))
    · cases h
  · cases h
theorem mm_k_lstore (hx : p.tables.exec = Jvm.exec) (hb : c.code = cc) (hl : mm_has ad lo ls) {i : Nat} (hd : decode cc pc = .ok (.lstore i, len)) (hk : mm_okl (.lstore i) len = true) {pc2 : Nat} {lo2 : List (Option Value)} {st2 : List Value} (h : mm_pure (.lstore i) pc len lo st = some (pc2, lo2, st2)) (k : ∀ ls2, mm_has ad lo2 ls2 → W p l e R s m args below meth c H locs cells slots Q (F0 m pc2 ls2 (st2.map (mm_v ad)))) : W p l e R s m args below meth c H locs cells slots Q (F0 m pc ls (st.map (mm_v ad))) := by
  have hk : len = 2 := by simpa [mm_okl] using hk
  subst hk
  simp only [mm_pure] at h
  split at h
  · rename_i x r; rw [cond_eq_if] at h; split at h
    · rename_i hi; simp only [Option.some.injEq, Prod.mk.injEq] at h; obtain ⟨rfl, rfl, rfl⟩ := h; exact lv_lstore hx hb hd hl.lv (of_decide_eq_true hi) rfl (fun ls2 h2 => k ls2 (mm_has.st2 (v := .long x) h2))
    · cases h
  · cases h
theorem mm_k_lstore_n (hx : p.tables.exec = Jvm.exec) (hb : c.code = cc) (hl : mm_has ad lo ls) {i : Fin 4} (hd : decode cc pc = .ok (.lstore_n i, len)) (hk : mm_okl (.lstore_n i) len = true) {pc2 : Nat} {lo2 : List (Option Value)} {st2 : List Value} (h : mm_pure (.lstore_n i) pc len lo st = some (pc2, lo2, st2)) (k : ∀ ls2, mm_has ad lo2 ls2 → W p l e R s m args below meth c H locs cells slots Q (F0 m pc2 ls2 (st2.map (mm_v ad)))) : W p l e R s m args below meth c H locs cells slots Q (F0 m pc ls (st.map (mm_v ad))) := by
  have hk : len = 1 := by simpa [mm_okl] using hk
  subst hk
  simp only [mm_pure] at h
  split at h
  · rename_i x r; rw [cond_eq_if] at h; split at h
    · rename_i hi; simp only [Option.some.injEq, Prod.mk.injEq] at h; obtain ⟨rfl, rfl, rfl⟩ := h; exact lv_lstore_n hx hb hd rfl hl.lv (of_decide_eq_true hi) rfl (fun ls2 h2 => k ls2 (mm_has.st2 (v := .long x) h2))
    · cases h
  · cases h
theorem mm_k_astore (hx : p.tables.exec = Jvm.exec) (hb : c.code = cc) (hl : mm_has ad lo ls) {i : Nat} (hd : decode cc pc = .ok (.astore i, len)) (hk : mm_okl (.astore i) len = true) {pc2 : Nat} {lo2 : List (Option Value)} {st2 : List Value} (h : mm_pure (.astore i) pc len lo st = some (pc2, lo2, st2)) (k : ∀ ls2, mm_has ad lo2 ls2 → W p l e R s m args below meth c H locs cells slots Q (F0 m pc2 ls2 (st2.map (mm_v ad)))) : W p l e R s m args below meth c H locs cells slots Q (F0 m pc ls (st.map (mm_v ad))) := by
  have hk : len = 2 := by simpa [mm_okl] using hk
  subst hk
  simp only [mm_pure] at h
  split at h
  · rename_i x r; rw [cond_eq_if] at h; split at h
    · rename_i hi; simp only [Option.some.injEq, Prod.mk.injEq] at h; obtain ⟨rfl, rfl, rfl⟩ := h; exact lv_astore hx hb hd hl.lv (of_decide_eq_true hi) rfl (fun ls2 h2 => k ls2 (mm_has.st1 (v := .ref x) h2))
    · cases h
  · cases h
theorem mm_k_astore_n (hx : p.tables.exec = Jvm.exec) (hb : c.code = cc) (hl : mm_has ad lo ls) {i : Fin 4} (hd : decode cc pc = .ok (.astore_n i, len)) (hk : mm_okl (.astore_n i) len = true) {pc2 : Nat} {lo2 : List (Option Value)} {st2 : List Value} (h : mm_pure (.astore_n i) pc len lo st = some (pc2, lo2, st2)) (k : ∀ ls2, mm_has ad lo2 ls2 → W p l e R s m args below meth c H locs cells slots Q (F0 m pc2 ls2 (st2.map (mm_v ad)))) : W p l e R s m args below meth c H locs cells slots Q (F0 m pc ls (st.map (mm_v ad))) := by
  have hk : len = 1 := by simpa [mm_okl] using hk
  subst hk
  simp only [mm_pure] at h
  split at h
  · rename_i x r; rw [cond_eq_if] at h; split at h
    · rename_i hi; simp only [Option.some.injEq, Prod.mk.injEq] at h; obtain ⟨rfl, rfl, rfl⟩ := h; exact lv_astore_n hx hb hd rfl hl.lv (of_decide_eq_true hi) rfl (fun ls2 h2 => k ls2 (mm_has.st1 (v := .ref x) h2))
    · cases h
  · cases h
theorem mm_k_iinc (hx : p.tables.exec = Jvm.exec) (hb : c.code = cc) (hl : mm_has ad lo ls) {i : Nat} {n : Int} (hd : decode cc pc = .ok (.iinc i n, len)) (hk : mm_okl (.iinc i n) len = true) {pc2 : Nat} {lo2 : List (Option Value)} {st2 : List Value} (h : mm_pure (.iinc i n) pc len lo st = some (pc2, lo2, st2)) (k : ∀ ls2, mm_has ad lo2 ls2 → W p l e R s m args below meth c H locs cells slots Q (F0 m pc2 ls2 (st2.map (mm_v ad)))) : W p l e R s m args below meth c H locs cells slots Q (F0 m pc ls (st.map (mm_v ad))) := by
  simp only [mm_pure] at h
  split at h
  · rename_i x hv; rw [cond_eq_if] at h; split at h
    · rename_i hi
      simp only [Option.some.injEq, Prod.mk.injEq] at h; obtain ⟨rfl, rfl, rfl⟩ := h
      obtain ⟨q, hq⟩ := mm_lv_idx (ad := ad) hv
      have hk : len = 3 ∨ len = 6 := by simpa [mm_okl] using hk
      rcases hk with rfl | rfl
      · exact lv_iinc hx hb hd hl.lv hq rfl (of_decide_eq_true hi) rfl (fun ls2 h2 => k ls2 (mm_has.st1 (v := .int (x + Int32.ofInt n)) h2))
      · exact lv_iincW hx hb hd hl.lv hq rfl (of_decide_eq_true hi) rfl (fun ls2 h2 => k ls2 (mm_has.st1 (v := .int (x + Int32.ofInt n)) h2))
    · cases h
  · cases h
theorem mm_k_iadd (hx : p.tables.exec = Jvm.exec) (hb : c.code = cc) (hl : mm_has ad lo ls) (hd : decode cc pc = .ok (.iadd, len)) (hk : mm_okl (.iadd) len = true) {pc2 : Nat} {lo2 : List (Option Value)} {st2 : List Value} (h : mm_pure (.iadd) pc len lo st = some (pc2, lo2, st2)) (k : ∀ ls2, mm_has ad lo2 ls2 → W p l e R s m args below meth c H locs cells slots Q (F0 m pc2 ls2 (st2.map (mm_v ad)))) : W p l e R s m args below meth c H locs cells slots Q (F0 m pc ls (st.map (mm_v ad))) := by
  have hk : len = 1 := by simpa [mm_okl] using hk
  subst hk
  simp only [mm_pure] at h
  split at h
  · simp only [Option.some.injEq, Prod.mk.injEq] at h; obtain ⟨rfl, rfl, rfl⟩ := h; exact lv_iadd hx hb hd (k ls hl)
  · cases h
theorem mm_k_isub (hx : p.tables.exec = Jvm.exec) (hb : c.code = cc) (hl : mm_has ad lo ls) (hd : decode cc pc = .ok (.isub, len)) (hk : mm_okl (.isub) len = true) {pc2 : Nat} {lo2 : List (Option Value)} {st2 : List Value} (h : mm_pure (.isub) pc len lo st = some (pc2, lo2, st2)) (k : ∀ ls2, mm_has ad lo2 ls2 → W p l e R s m args below meth c H locs cells slots Q (F0 m pc2 ls2 (st2.map (mm_v ad)))) : W p l e R s m args below meth c H locs cells slots Q (F0 m pc ls (st.map (mm_v ad))) := by
  have hk : len = 1 := by simpa [mm_okl] using hk
  subst hk
  simp only [mm_pure] at h
  split at h
  · simp only [Option.some.injEq, Prod.mk.injEq] at h; obtain ⟨rfl, rfl, rfl⟩ := h; exact lv_isub hx hb hd (k ls hl)
  · cases h
theorem mm_k_imul (hx : p.tables.exec = Jvm.exec) (hb : c.code = cc) (hl : mm_has ad lo ls) (hd : decode cc pc = .ok (.imul, len)) (hk : mm_okl (.imul) len = true) {pc2 : Nat} {lo2 : List (Option Value)} {st2 : List Value} (h : mm_pure (.imul) pc len lo st = some (pc2, lo2, st2)) (k : ∀ ls2, mm_has ad lo2 ls2 → W p l e R s m args below meth c H locs cells slots Q (F0 m pc2 ls2 (st2.map (mm_v ad)))) : W p l e R s m args below meth c H locs cells slots Q (F0 m pc ls (st.map (mm_v ad))) := by
  have hk : len = 1 := by simpa [mm_okl] using hk
  subst hk
  simp only [mm_pure] at h
  split at h
  · simp only [Option.some.injEq, Prod.mk.injEq] at h; obtain ⟨rfl, rfl, rfl⟩ := h; exact lv_imul hx hb hd (k ls hl)
  · cases h
theorem mm_k_iand (hx : p.tables.exec = Jvm.exec) (hb : c.code = cc) (hl : mm_has ad lo ls) (hd : decode cc pc = .ok (.iand, len)) (hk : mm_okl (.iand) len = true) {pc2 : Nat} {lo2 : List (Option Value)} {st2 : List Value} (h : mm_pure (.iand) pc len lo st = some (pc2, lo2, st2)) (k : ∀ ls2, mm_has ad lo2 ls2 → W p l e R s m args below meth c H locs cells slots Q (F0 m pc2 ls2 (st2.map (mm_v ad)))) : W p l e R s m args below meth c H locs cells slots Q (F0 m pc ls (st.map (mm_v ad))) := by
  have hk : len = 1 := by simpa [mm_okl] using hk
  subst hk
  simp only [mm_pure] at h
  split at h
  · simp only [Option.some.injEq, Prod.mk.injEq] at h; obtain ⟨rfl, rfl, rfl⟩ := h; exact lv_iand hx hb hd (k ls hl)
  · cases h
theorem mm_k_ior (hx : p.tables.exec = Jvm.exec) (hb : c.code = cc) (hl : mm_has ad lo ls) (hd : decode cc pc = .ok (.ior, len)) (hk : mm_okl (.ior) len = true) {pc2 : Nat} {lo2 : List (Option Value)} {st2 : List Value} (h : mm_pure (.ior) pc len lo st = some (pc2, lo2, st2)) (k : ∀ ls2, mm_has ad lo2 ls2 → W p l e R s m args below meth c H locs cells slots Q (F0 m pc2 ls2 (st2.map (mm_v ad)))) : W p l e R s m args below meth c H locs cells slots Q (F0 m pc ls (st.map (mm_v ad))) := by
  have hk : len = 1 := by simpa [mm_okl] using hk
  subst hk
  simp only [mm_pure] at h
  split at h
  · simp only [Option.some.injEq, Prod.mk.injEq] at h; obtain ⟨rfl, rfl, rfl⟩ := h; exact lv_ior hx hb hd (k ls hl)
  · cases h
theorem mm_k_ixor (hx : p.tables.exec = Jvm.exec) (hb : c.code = cc) (hl : mm_has ad lo ls) (hd : decode cc pc = .ok (.ixor, len)) (hk : mm_okl (.ixor) len = true) {pc2 : Nat} {lo2 : List (Option Value)} {st2 : List Value} (h : mm_pure (.ixor) pc len lo st = some (pc2, lo2, st2)) (k : ∀ ls2, mm_has ad lo2 ls2 → W p l e R s m args below meth c H locs cells slots Q (F0 m pc2 ls2 (st2.map (mm_v ad)))) : W p l e R s m args below meth c H locs cells slots Q (F0 m pc ls (st.map (mm_v ad))) := by
  have hk : len = 1 := by simpa [mm_okl] using hk
  subst hk
  simp only [mm_pure] at h
  split at h
  · simp only [Option.some.injEq, Prod.mk.injEq] at h; obtain ⟨rfl, rfl, rfl⟩ := h; exact lv_ixor hx hb hd (k ls hl)
  · cases h
theorem mm_k_ishl (hx : p.tables.exec = Jvm.exec) (hb : c.code = cc) (hl : mm_has ad lo ls) (hd : decode cc pc = .ok (.ishl, len)) (hk : mm_okl (.ishl) len = true) {pc2 : Nat} {lo2 : List (Option Value)} {st2 : List Value} (h : mm_pure (.ishl) pc len lo st = some (pc2, lo2, st2)) (k : ∀ ls2, mm_has ad lo2 ls2 → W p l e R s m args below meth c H locs cells slots Q (F0 m pc2 ls2 (st2.map (mm_v ad)))) : W p l e R s m args below meth c H locs cells slots Q (F0 m pc ls (st.map (mm_v ad))) := by
  have hk : len = 1 := by simpa [mm_okl] using hk
  subst hk
  simp only [mm_pure] at h
  split at h
  · simp only [Option.some.injEq, Prod.mk.injEq] at h; obtain ⟨rfl, rfl, rfl⟩ := h; exact lv_ishl hx hb hd (k ls hl)
  · cases h
theorem mm_k_ishr (hx : p.tables.exec = Jvm.exec) (hb : c.code = cc) (hl : mm_has ad lo ls) (hd : decode cc pc = .ok (.ishr, len)) (hk : mm_okl (.ishr) len = true) {pc2 : Nat} {lo2 : List (Option Value)} {st2 : List Value} (h : mm_pure (.ishr) pc len lo st = some (pc2, lo2, st2)) (k : ∀ ls2, mm_has ad lo2 ls2 → W p l e R s m args below meth c H locs cells slots Q (F0 m pc2 ls2 (st2.map (mm_v ad)))) : W p l e R s m args below meth c H locs cells slots Q (F0 m pc ls (st.map (mm_v ad))) := by
  have hk : len = 1 := by simpa [mm_okl] using hk
  subst hk
  simp only [mm_pure] at h
  split at h
  · simp only [Option.some.injEq, Prod.mk.injEq] at h; obtain ⟨rfl, rfl, rfl⟩ := h; exact lv_ishr hx hb hd (k ls hl)
  · cases h
theorem mm_k_iushr (hx : p.tables.exec = Jvm.exec) (hb : c.code = cc) (hl : mm_has ad lo ls) (hd : decode cc pc = .ok (.iushr, len)) (hk : mm_okl (.iushr) len = true) {pc2 : Nat} {lo2 : List (Option Value)} {st2 : List Value} (h : mm_pure (.iushr) pc len lo st = some (pc2, lo2, st2)) (k : ∀ ls2, mm_has ad lo2 ls2 → W p l e R s m args below meth c H locs cells slots Q (F0 m pc2 ls2 (st2.map (mm_v ad)))) : W p l e R s m args below meth c H locs cells slots Q (F0 m pc ls (st.map (mm_v ad))) := by
  have hk : len = 1 := by simpa [mm_okl] using hk
  subst hk
  simp only [mm_pure] at h
  split at h
  · simp only [Option.some.injEq, Prod.mk.injEq] at h; obtain ⟨rfl, rfl, rfl⟩ := h; exact lv_iushr hx hb hd rfl (k ls hl)
  · cases h
theorem mm_k_ladd (hx : p.tables.exec = Jvm.exec) (hb : c.code = cc) (hl : mm_has ad lo ls) (hd : decode cc pc = .ok (.ladd, len)) (hk : mm_okl (.ladd) len = true) {pc2 : Nat} {lo2 : List (Option Value)} {st2 : List Value} (h : mm_pure (.ladd) pc len lo st = some (pc2, lo2, st2)) (k : ∀ ls2, mm_has ad lo2 ls2 → W p l e R s m args below meth c H locs cells slots Q (F0 m pc2 ls2 (st2.map (mm_v ad)))) : W p l e R s m args below meth c H locs cells slots Q (F0 m pc ls (st.map (mm_v ad))) := by
  have hk : len = 1 := by simpa [mm_okl] using hk
  subst hk
  simp only [mm_pure] at h
  split at h
  · simp only [Option.some.injEq, Prod.mk.injEq] at h; obtain ⟨rfl, rfl, rfl⟩ := h; exact lv_ladd hx hb hd (k ls hl)
  · cases h
theorem mm_k_lsub (hx : p.tables.exec = Jvm.exec) (hb : c.code = cc) (hl : mm_has ad lo ls) (hd : decode cc pc = .ok (.lsub, len)) (hk : mm_okl (.lsub) len = true) {pc2 : Nat} {lo2 : List (Option Value)} {st2 : List Value} (h : mm_pure (.lsub) pc len lo st = some (pc2, lo2, st2)) (k : ∀ ls2, mm_has ad lo2 ls2 → W p l e R s m args below meth c H locs cells slots Q (F0 m pc2 ls2 (st2.map (mm_v ad)))) : W p l e R s m args below meth c H locs cells slots Q (F0 m pc ls (st.map (mm_v ad))) := by
  have hk : len = 1 := by simpa [mm_okl] using hk
  subst hk
  simp only [mm_pure] at h
  split at h
  · simp only [Option.some.injEq, Prod.mk.injEq] at h; obtain ⟨rfl, rfl, rfl⟩ := h; exact lv_lsub hx hb hd (k ls hl)
  · cases h
theorem mm_k_lmul (hx : p.tables.exec = Jvm.exec) (hb : c.code = cc) (hl : mm_has ad lo ls) (hd : decode cc pc = .ok (.lmul, len)) (hk : mm_okl (.lmul) len = true) {pc2 : Nat} {lo2 : List (Option Value)} {st2 : List Value} (h : mm_pure (.lmul) pc len lo st = some (pc2, lo2, st2)) (k : ∀ ls2, mm_has ad lo2 ls2 → W p l e R s m args below meth c H locs cells slots Q (F0 m pc2 ls2 (st2.map (mm_v ad)))) : W p l e R s m args below meth c H locs cells slots Q (F0 m pc ls (st.map (mm_v ad))) := by
  have hk : len = 1 := by simpa [mm_okl] using hk
  subst hk
  simp only [mm_pure] at h
  split at h
  · simp only [Option.some.injEq, Prod.mk.injEq] at h; obtain ⟨rfl, rfl, rfl⟩ := h; exact lv_lmul hx hb hd (k ls hl)
  · cases h
theorem mm_k_land (hx : p.tables.exec = Jvm.exec) (hb : c.code = cc) (hl : mm_has ad lo ls) (hd : decode cc pc = .ok (.land, len)) (hk : mm_okl (.land) len = true) {pc2 : Nat} {lo2 : List (Option Value)} {st2 : List Value} (h : mm_pure (.land) pc len lo st = some (pc2, lo2, st2)) (k : ∀ ls2, mm_has ad lo2 ls2 → W p l e R s m args below meth c H locs cells slots Q (F0 m pc2 ls2 (st2.map (mm_v ad)))) : W p l e R s m args below meth c H locs cells slots Q (F0 m pc ls (st.map (mm_v ad))) := by
  have hk : len = 1 := by simpa [mm_okl] using hk
  subst hk
  simp only [mm_pure] at h
  split at h
  · simp only [Option.some.injEq, Prod.mk.injEq] at h; obtain ⟨rfl, rfl, rfl⟩ := h; exact lv_land hx hb hd (k ls hl)
  · cases h
theorem mm_k_lor (hx : p.tables.exec = Jvm.exec) (hb : c.code = cc) (hl : mm_has ad lo ls) (hd : decode cc pc = .ok (.lor, len)) (hk : mm_okl (.lor) len = true) {pc2 : Nat} {lo2 : List (Option Value)} {st2 : List Value} (h : mm_pure (.lor) pc len lo st = some (pc2, lo2, st2)) (k : ∀ ls2, mm_has ad lo2 ls2 → W p l e R s m args below meth c H locs cells slots Q (F0 m pc2 ls2 (st2.map (mm_v ad)))) : W p l e R s m args below meth c H locs cells slots Q (F0 m pc ls (st.map (mm_v ad))) := by
  have hk : len = 1 := by simpa [mm_okl] using hk
  subst hk
  simp only [mm_pure] at h
  split at h
  · simp only [Option.some.injEq, Prod.mk.injEq] at h; obtain ⟨rfl, rfl, rfl⟩ := h; exact lv_lor hx hb hd (k ls hl)
  · cases h
theorem mm_k_lxor (hx : p.tables.exec = Jvm.exec) (hb : c.code = cc) (hl : mm_has ad lo ls) (hd : decode cc pc = .ok (.lxor, len)) (hk : mm_okl (.lxor) len = true) {pc2 : Nat} {lo2 : List (Option Value)} {st2 : List Value} (h : mm_pure (.lxor) pc len lo st = some (pc2, lo2, st2)) (k : ∀ ls2, mm_has ad lo2 ls2 → W p l e R s m args below meth c H locs cells slots Q (F0 m pc2 ls2 (st2.map (mm_v ad)))) : W p l e R s m args below meth c H locs cells slots Q (F0 m pc ls (st.map (mm_v ad))) := by
  have hk : len = 1 := by simpa [mm_okl] using hk
  subst hk
  simp only [mm_pure] at h
  split at h
  · simp only [Option.some.injEq, Prod.mk.injEq] at h; obtain ⟨rfl, rfl, rfl⟩ := h; exact lv_lxor hx hb hd (k ls hl)
  · cases h
theorem mm_k_lshl (hx : p.tables.exec = Jvm.exec) (hb : c.code = cc) (hl : mm_has ad lo ls) (hd : decode cc pc = .ok (.lshl, len)) (hk : mm_okl (.lshl) len = true) {pc2 : Nat} {lo2 : List (Option Value)} {st2 : List Value} (h : mm_pure (.lshl) pc len lo st = some (pc2, lo2, st2)) (k : ∀ ls2, mm_has ad lo2 ls2 → W p l e R s m args below meth c H locs cells slots Q (F0 m pc2 ls2 (st2.map (mm_v ad)))) : W p l e R s m args below meth c H locs cells slots Q (F0 m pc ls (st.map (mm_v ad))) := by
  have hk : len = 1 := by simpa [mm_okl] using hk
  subst hk
  simp only [mm_pure] at h
  split at h
  · simp only [Option.some.injEq, Prod.mk.injEq] at h; obtain ⟨rfl, rfl, rfl⟩ := h; exact lv_lshl hx hb hd rfl (k ls hl)
  · cases h
theorem mm_k_lshr (hx : p.tables.exec = Jvm.exec) (hb : c.code = cc) (hl : mm_has ad lo ls) (hd : decode cc pc = .ok (.lshr, len)) (hk : mm_okl (.lshr) len = true) {pc2 : Nat} {lo2 : List (Option Value)} {st2 : List Value} (h : mm_pure (.lshr) pc len lo st = some (pc2, lo2, st2)) (k : ∀ ls2, mm_has ad lo2 ls2 → W p l e R s m args below meth c H locs cells slots Q (F0 m pc2 ls2 (st2.map (mm_v ad)))) : W p l e R s m args below meth c H locs cells slots Q (F0 m pc ls (st.map (mm_v ad))) := by
  have hk : len = 1 := by simpa [mm_okl] using hk
  subst hk
  simp only [mm_pure] at h
  split at h
  · simp only [Option.some.injEq, Prod.mk.injEq] at h; obtain ⟨rfl, rfl, rfl⟩ := h; exact lv_lshr hx hb hd rfl (k ls hl)
  · cases h
theorem mm_k_lushr (hx : p.tables.exec = Jvm.exec) (hb : c.code = cc) (hl : mm_has ad lo ls) (hd : decode cc pc = .ok (.lushr, len)) (hk : mm_okl (.lushr) len = true) {pc2 : Nat} {lo2 : List (Option Value)} {st2 : List Value} (h : mm_pure (.lushr) pc len lo st = some (pc2, lo2, st2)) (k : ∀ ls2, mm_has ad lo2 ls2 → W p l e R s m args below meth c H locs cells slots Q (F0 m pc2 ls2 (st2.map (mm_v ad)))) : W p l e R s m args below meth c H locs cells slots Q (F0 m pc ls (st.map (mm_v ad))) := by
  have hk : len = 1 := by simpa [mm_okl] using hk
  subst hk
  simp only [mm_pure] at h
  split at h
  · simp only [Option.some.injEq, Prod.mk.injEq] at h; obtain ⟨rfl, rfl, rfl⟩ := h; exact lv_lushr hx hb hd rfl (k ls hl)
  · cases h
theorem mm_k_ineg (hx : p.tables.exec = Jvm.exec) (hb : c.code = cc) (hl : mm_has ad lo ls) (hd : decode cc pc = .ok (.ineg, len)) (hk : mm_okl (.ineg) len = true) {pc2 : Nat} {lo2 : List (Option Value)} {st2 : List Value} (h : mm_pure (.ineg) pc len lo st = some (pc2, lo2, st2)) (k : ∀ ls2, mm_has ad lo2 ls2 → W p l e R s m args below meth c H locs cells slots Q (F0 m pc2 ls2 (st2.map (mm_v ad)))) : W p l e R s m args below meth c H locs cells slots Q (F0 m pc ls (st.map (mm_v ad))) := by
  have hk : len = 1 := by simpa [mm_okl] using hk
  subst hk
  simp only [mm_pure] at h
  split at h
  · simp only [Option.some.injEq, Prod.mk.injEq] at h; obtain ⟨rfl, rfl, rfl⟩ := h; exact lv_ineg hx hb hd (k ls hl)
  · cases h
theorem mm_k_i2l (hx : p.tables.exec = Jvm.exec) (hb : c.code = cc) (hl : mm_has ad lo ls) (hd : decode cc pc = .ok (.i2l, len)) (hk : mm_okl (.i2l) len = true) {pc2 : Nat} {lo2 : List (Option Value)} {st2 : List Value} (h : mm_pure (.i2l) pc len lo st = some (pc2, lo2, st2)) (k : ∀ ls2, mm_has ad lo2 ls2 → W p l e R s m args below meth c H locs cells slots Q (F0 m pc2 ls2 (st2.map (mm_v ad)))) : W p l e R s m args below meth c H locs cells slots Q (F0 m pc ls (st.map (mm_v ad))) := by
  have hk : len = 1 := by simpa [mm_okl] using hk
  subst hk
  simp only [mm_pure] at h
  split at h
  · simp only [Option.some.injEq, Prod.mk.injEq] at h; obtain ⟨rfl, rfl, rfl⟩ := h; exact lv_i2l hx hb hd rfl (k ls hl)
  · cases h
theorem mm_k_l2i (hx : p.tables.exec = Jvm.exec) (hb : c.code = cc) (hl : mm_has ad lo ls) (hd : decode cc pc = .ok (.l2i, len)) (hk : mm_okl (.l2i) len = true) {pc2 : Nat} {lo2 : List (Option Value)} {st2 : List Value} (h : mm_pure (.l2i) pc len lo st = some (pc2, lo2, st2)) (k : ∀ ls2, mm_has ad lo2 ls2 → W p l e R s m args below meth c H locs cells slots Q (F0 m pc2 ls2 (st2.map (mm_v ad)))) : W p l e R s m args below meth c H locs cells slots Q (F0 m pc ls (st.map (mm_v ad))) := by
  have hk : len = 1 := by simpa [mm_okl] using hk
  subst hk
  simp only [mm_pure] at h
  split at h
  · simp only [Option.some.injEq, Prod.mk.injEq] at h; obtain ⟨rfl, rfl, rfl⟩ := h; exact lv_l2i hx hb hd rfl (k ls hl)
  · cases h
theorem mm_k_lcmp (hx : p.tables.exec = Jvm.exec) (hb : c.code = cc) (hl : mm_has ad lo ls) (hd : decode cc pc = .ok (.lcmp, len)) (hk : mm_okl (.lcmp) len = true) {pc2 : Nat} {lo2 : List (Option Value)} {st2 : List Value} (h : mm_pure (.lcmp) pc len lo st = some (pc2, lo2, st2)) (k : ∀ ls2, mm_has ad lo2 ls2 → W p l e R s m args below meth c H locs cells slots Q (F0 m pc2 ls2 (st2.map (mm_v ad)))) : W p l e R s m args below meth c H locs cells slots Q (F0 m pc ls (st.map (mm_v ad))) := by
  have hk : len = 1 := by simpa [mm_okl] using hk
  subst hk
  simp only [mm_pure] at h
  split at h
  · simp only [Option.some.injEq, Prod.mk.injEq] at h; obtain ⟨rfl, rfl, rfl⟩ := h; exact W.lcmp hx hb hd (k ls hl)
  · cases h
theorem mm_k_idiv (hx : p.tables.exec = Jvm.exec) (hb : c.code = cc) (hl : mm_has ad lo ls) (hd : decode cc pc = .ok (.idiv, len)) (hk : mm_okl (.idiv) len = true) {pc2 : Nat} {lo2 : List (Option Value)} {st2 : List Value} (h : mm_pure (.idiv) pc len lo st = some (pc2, lo2, st2)) (k : ∀ ls2, mm_has ad lo2 ls2 → W p l e R s m args below meth c H locs cells slots Q (F0 m pc2 ls2 (st2.map (mm_v ad)))) : W p l e R s m args below meth c H locs cells slots Q (F0 m pc ls (st.map (mm_v ad))) := by
  have hk : len = 1 := by simpa [mm_okl] using hk
  subst hk
  simp only [mm_pure] at h
  split at h
  · rw [cond_eq_if] at h; split at h
    · cases h
    · rename_i hy; simp only [Option.some.injEq, Prod.mk.injEq] at h; obtain ⟨rfl, rfl, rfl⟩ := h; exact lv_idiv hx hb hd (fun q => hy (by simp [q])) (k ls hl)
  · cases h
theorem mm_k_irem (hx : p.tables.exec = Jvm.exec) (hb : c.code = cc) (hl : mm_has ad lo ls) (hd : decode cc pc = .ok (.irem, len)) (hk : mm_okl (.irem) len = true) {pc2 : Nat} {lo2 : List (Option Value)} {st2 : List Value} (h : mm_pure (.irem) pc len lo st = some (pc2, lo2, st2)) (k : ∀ ls2, mm_has ad lo2 ls2 → W p l e R s m args below meth c H locs cells slots Q (F0 m pc2 ls2 (st2.map (mm_v ad)))) : W p l e R s m args below meth c H locs cells slots Q (F0 m pc ls (st.map (mm_v ad))) := by
  have hk : len = 1 := by simpa [mm_okl] using hk
  subst hk
  simp only [mm_pure] at h
  split at h
  · rw [cond_eq_if] at h; split at h
    · cases h
    · rename_i hy; simp only [Option.some.injEq, Prod.mk.injEq] at h; obtain ⟨rfl, rfl, rfl⟩ := h; exact lv_irem hx hb hd (fun q => hy (by simp [q])) (k ls hl)
  · cases h
theorem mm_k_ldiv (hx : p.tables.exec = Jvm.exec) (hb : c.code = cc) (hl : mm_has ad lo ls) (hd : decode cc pc = .ok (.ldiv, len)) (hk : mm_okl (.ldiv) len = true) {pc2 : Nat} {lo2 : List (Option Value)} {st2 : List Value} (h : mm_pure (.ldiv) pc len lo st = some (pc2, lo2, st2)) (k : ∀ ls2, mm_has ad lo2 ls2 → W p l e R s m args below meth c H locs cells slots Q (F0 m pc2 ls2 (st2.map (mm_v ad)))) : W p l e R s m args below meth c H locs cells slots Q (F0 m pc ls (st.map (mm_v ad))) := by
  have hk : len = 1 := by simpa [mm_okl] using hk
  subst hk
  simp only [mm_pure] at h
  split at h
  · rw [cond_eq_if] at h; split at h
    · cases h
    · rename_i hy; simp only [Option.some.injEq, Prod.mk.injEq] at h; obtain ⟨rfl, rfl, rfl⟩ := h; exact lv_ldiv hx hb hd (fun q => hy (by simp [q])) (k ls hl)
  · cases h
theorem mm_k_dup (hx : p.tables.exec = Jvm.exec) (hb : c.code = cc) (hl : mm_has ad lo ls) (hd : decode cc pc = .ok (.dup, len)) (hk : mm_okl (.dup) len = true) {pc2 : Nat} {lo2 : List (Option Value)} {st2 : List Value} (h : mm_pure (.dup) pc len lo st = some (pc2, lo2, st2)) (k : ∀ ls2, mm_has ad lo2 ls2 → W p l e R s m args below meth c H locs cells slots Q (F0 m pc2 ls2 (st2.map (mm_v ad)))) : W p l e R s m args below meth c H locs cells slots Q (F0 m pc ls (st.map (mm_v ad))) := by
  have hk : len = 1 := by simpa [mm_okl] using hk
  subst hk
  simp only [mm_pure] at h
  split at h
  · rw [cond_eq_if] at h; split at h
    · rename_i hy; simp only [Option.some.injEq, Prod.mk.injEq] at h; obtain ⟨rfl, rfl, rfl⟩ := h; exact lv_dup hx hb hd (by rw [mm_v_cat]; simpa using hy) (k ls hl)
    · cases h
  · cases h
theorem mm_k_pop (hx : p.tables.exec = Jvm.exec) (hb : c.code = cc) (hl : mm_has ad lo ls) (hd : decode cc pc = .ok (.pop, len)) (hk : mm_okl (.pop) len = true) {pc2 : Nat} {lo2 : List (Option Value)} {st2 : List Value} (h : mm_pure (.pop) pc len lo st = some (pc2, lo2, st2)) (k : ∀ ls2, mm_has ad lo2 ls2 → W p l e R s m args below meth c H locs cells slots Q (F0 m pc2 ls2 (st2.map (mm_v ad)))) : W p l e R s m args below meth c H locs cells slots Q (F0 m pc ls (st.map (mm_v ad))) := by
  have hk : len = 1 := by simpa [mm_okl] using hk
  subst hk
  simp only [mm_pure] at h
  split at h
  · rw [cond_eq_if] at h; split at h
    · rename_i hy; simp only [Option.some.injEq, Prod.mk.injEq] at h; obtain ⟨rfl, rfl, rfl⟩ := h; exact lv_pop hx hb hd (by rw [mm_v_cat]; simpa using hy) (k ls hl)
    · cases h
  · cases h
theorem mm_k_pop2 (hx : p.tables.exec = Jvm.exec) (hb : c.code = cc) (hl : mm_has ad lo ls) (hd : decode cc pc = .ok (.pop2, len)) (hk : mm_okl (.pop2) len = true) {pc2 : Nat} {lo2 : List (Option Value)} {st2 : List Value} (h : mm_pure (.pop2) pc len lo st = some (pc2, lo2, st2)) (k : ∀ ls2, mm_has ad lo2 ls2 → W p l e R s m args below meth c H locs cells slots Q (F0 m pc2 ls2 (st2.map (mm_v ad)))) : W p l e R s m args below meth c H locs cells slots Q (F0 m pc ls (st.map (mm_v ad))) := by
  have hk : len = 1 := by simpa [mm_okl] using hk
  subst hk
  simp only [mm_pure] at h
  split at h
  · rw [cond_eq_if] at h; split at h
    · rename_i hy; simp only [Option.some.injEq, Prod.mk.injEq] at h; obtain ⟨rfl, rfl, rfl⟩ := h; exact lv_pop2_2 hx hb hd (by rw [mm_v_cat]; simpa using hy) (k ls hl)
    · cases h
  · cases h
theorem mm_k_dup2 (hx : p.tables.exec = Jvm.exec) (hb : c.code = cc) (hl : mm_has ad lo ls) (hd : decode cc pc = .ok (.dup2, len)) (hk : mm_okl (.dup2) len = true) {pc2 : Nat} {lo2 : List (Option Value)} {st2 : List Value} (h : mm_pure (.dup2) pc len lo st = some (pc2, lo2, st2)) (k : ∀ ls2, mm_has ad lo2 ls2 → W p l e R s m args below meth c H locs cells slots Q (F0 m pc2 ls2 (st2.map (mm_v ad)))) : W p l e R s m args below meth c H locs cells slots Q (F0 m pc ls (st.map (mm_v ad))) := by
  have hk : len = 1 := by simpa [mm_okl] using hk
  subst hk
  simp only [mm_pure] at h
  split at h
  · rw [cond_eq_if] at h; split at h
    · rename_i hy; simp only [Bool.and_eq_true, beq_iff_eq] at hy; simp only [Option.some.injEq, Prod.mk.injEq] at h; obtain ⟨rfl, rfl, rfl⟩ := h; exact lv_dup2_11 hx hb hd (by rw [mm_v_cat]; exact hy.1) (by rw [mm_v_cat]; exact hy.2) (k ls hl)
    · cases h
  · cases h
theorem mm_k_if_eq (hx : p.tables.exec = Jvm.exec) (hb : c.code = cc) (hl : mm_has ad lo ls) {off : Int} (hd : decode cc pc = .ok (.ifCond .eq off, len)) (hk : mm_okl (.ifCond .eq off) len = true) {pc2 : Nat} {lo2 : List (Option Value)} {st2 : List Value} (h : mm_pure (.ifCond .eq off) pc len lo st = some (pc2, lo2, st2)) (k : ∀ ls2, mm_has ad lo2 ls2 → W p l e R s m args below meth c H locs cells slots Q (F0 m pc2 ls2 (st2.map (mm_v ad)))) : W p l e R s m args below meth c H locs cells slots Q (F0 m pc ls (st.map (mm_v ad))) := by
  have hk : len = 3 := by simpa [mm_okl] using hk
  subst hk
  simp only [mm_pure] at h
  split at h
  · rename_i x r; rw [cond_eq_if] at h; split at h
    · rename_i hi; have hi := of_decide_eq_true hi; simp only [Option.some.injEq, Prod.mk.injEq] at h; obtain ⟨rfl, rfl, rfl⟩ := h
      refine lv_if_eq (tgt := ((pc : Int) + off).toNat) hx hb hd (Int.toNat_of_nonneg hi).symm (fun q => ?_) (fun q => ?_)
      · have h1 := k ls hl; rw [show (x == 0) = true from beq_iff_eq.mpr q] at h1; exact h1
      · have h1 := k ls hl; rw [show (x == 0) = false from beq_eq_false_iff_ne.mpr q] at h1; exact h1
    · cases h
  · cases h
theorem mm_k_icmp_eq (hx : p.tables.exec = Jvm.exec) (hb : c.code = cc) (hl : mm_has ad lo ls) {off : Int} (hd : decode cc pc = .ok (.if_icmp .eq off, len)) (hk : mm_okl (.if_icmp .eq off) len = true) {pc2 : Nat} {lo2 : List (Option Value)} {st2 : List Value} (h : mm_pure (.if_icmp .eq off) pc len lo st = some (pc2, lo2, st2)) (k : ∀ ls2, mm_has ad lo2 ls2 → W p l e R s m args below meth c H locs cells slots Q (F0 m pc2 ls2 (st2.map (mm_v ad)))) : W p l e R s m args below meth c H locs cells slots Q (F0 m pc ls (st.map (mm_v ad))) := by
  have hk : len = 3 := by simpa [mm_okl] using hk
  subst hk
  simp only [mm_pure] at h
  split at h
  · rename_i y x r; rw [cond_eq_if] at h; split at h
    · rename_i hi; have hi := of_decide_eq_true hi; simp only [Option.some.injEq, Prod.mk.injEq] at h; obtain ⟨rfl, rfl, rfl⟩ := h
      refine lv_icmp_eq (tgt := ((pc : Int) + off).toNat) hx hb hd (Int.toNat_of_nonneg hi).symm (fun q => ?_) (fun q => ?_)
      · have h1 := k ls hl; rw [show (x == y) = true from beq_iff_eq.mpr q] at h1; exact h1
      · have h1 := k ls hl; rw [show (x == y) = false from beq_eq_false_iff_ne.mpr q] at h1; exact h1
    · cases h
  · cases h
theorem mm_k_if_ne (hx : p.tables.exec = Jvm.exec) (hb : c.code = cc) (hl : mm_has ad lo ls) {off : Int} (hd : decode cc pc = .ok (.ifCond .ne off, len)) (hk : mm_okl (.ifCond .ne off) len = true) {pc2 : Nat} {lo2 : List (Option Value)} {st2 : List Value} (h : mm_pure (.ifCond .ne off) pc len lo st = some (pc2, lo2, st2)) (k : ∀ ls2, mm_has ad lo2 ls2 → W p l e R s m args below meth c H locs cells slots Q (F0 m pc2 ls2 (st2.map (mm_v ad)))) : W p l e R s m args below meth c H locs cells slots Q (F0 m pc ls (st.map (mm_v ad))) := by
  have hk : len = 3 := by simpa [mm_okl] using hk
  subst hk
  simp only [mm_pure] at h
  split at h
  · rename_i x r; rw [cond_eq_if] at h; split at h
    · rename_i hi; have hi := of_decide_eq_true hi; simp only [Option.some.injEq, Prod.mk.injEq] at h; obtain ⟨rfl, rfl, rfl⟩ := h
      refine lv_if_ne (tgt := ((pc : Int) + off).toNat) hx hb hd (Int.toNat_of_nonneg hi).symm (fun q => ?_) (fun q => ?_)
      · have h1 := k ls hl; rw [show (x == 0) = false from beq_eq_false_iff_ne.mpr q] at h1; exact h1
      · have h1 := k ls hl; rw [show (x == 0) = true from beq_iff_eq.mpr q] at h1; exact h1
    · cases h
  · cases h
theorem mm_k_icmp_ne (hx : p.tables.exec = Jvm.exec) (hb : c.code = cc) (hl : mm_has ad lo ls) {off : Int} (hd : decode cc pc = .ok (.if_icmp .ne off, len)) (hk : mm_okl (.if_icmp .ne off) len = true) {pc2 : Nat} {lo2 : List (Option Value)} {st2 : List Value} (h : mm_pure (.if_icmp .ne off) pc len lo st = some (pc2, lo2, st2)) (k : ∀ ls2, mm_has ad lo2 ls2 → W p l e R s m args below meth c H locs cells slots Q (F0 m pc2 ls2 (st2.map (mm_v ad)))) : W p l e R s m args below meth c H locs cells slots Q (F0 m pc ls (st.map (mm_v ad))) := by
  have hk : len = 3 := by simpa [mm_okl] using hk
  subst hk
  simp only [mm_pure] at h
  split at h
  · rename_i y x r; rw [cond_eq_if] at h; split at h
    · rename_i hi; have hi := of_decide_eq_true hi; simp only [Option.some.injEq, Prod.mk.injEq] at h; obtain ⟨rfl, rfl, rfl⟩ := h
      refine lv_icmp_ne (tgt := ((pc : Int) + off).toNat) hx hb hd (Int.toNat_of_nonneg hi).symm (fun q => ?_) (fun q => ?_)
      · have h1 := k ls hl; rw [show (x == y) = false from beq_eq_false_iff_ne.mpr q] at h1; exact h1
      · have h1 := k ls hl; rw [show (x == y) = true from beq_iff_eq.mpr q] at h1; exact h1
    · cases h
  · cases h
theorem mm_k_if_lt (hx : p.tables.exec = Jvm.exec) (hb : c.code = cc) (hl : mm_has ad lo ls) {off : Int} (hd : decode cc pc = .ok (.ifCond .lt off, len)) (hk : mm_okl (.ifCond .lt off) len = true) {pc2 : Nat} {lo2 : List (Option Value)} {st2 : List Value} (h : mm_pure (.ifCond .lt off) pc len lo st = some (pc2, lo2, st2)) (k : ∀ ls2, mm_has ad lo2 ls2 → W p l e R s m args below meth c H locs cells slots Q (F0 m pc2 ls2 (st2.map (mm_v ad)))) : W p l e R s m args below meth c H locs cells slots Q (F0 m pc ls (st.map (mm_v ad))) := by
  have hk : len = 3 := by simpa [mm_okl] using hk
  subst hk
  simp only [mm_pure] at h
  split at h
  · rename_i x r; rw [cond_eq_if] at h; split at h
    · rename_i hi; have hi := of_decide_eq_true hi; simp only [Option.some.injEq, Prod.mk.injEq] at h; obtain ⟨rfl, rfl, rfl⟩ := h
      refine lv_if_lt (tgt := ((pc : Int) + off).toNat) hx hb hd (Int.toNat_of_nonneg hi).symm (fun q => ?_) (fun q => ?_)
      · have h1 := k ls hl; rw [decide_eq_true q] at h1; exact h1
      · have h1 := k ls hl; rw [decide_eq_false q] at h1; exact h1
    · cases h
  · cases h
theorem mm_k_icmp_lt (hx : p.tables.exec = Jvm.exec) (hb : c.code = cc) (hl : mm_has ad lo ls) {off : Int} (hd : decode cc pc = .ok (.if_icmp .lt off, len)) (hk : mm_okl (.if_icmp .lt off) len = true) {pc2 : Nat} {lo2 : List (Option Value)} {st2 : List Value} (h : mm_pure (.if_icmp .lt off) pc len lo st = some (pc2, lo2, st2)) (k : ∀ ls2, mm_has ad lo2 ls2 → W p l e R s m args below meth c H locs cells slots Q (F0 m pc2 ls2 (st2.map (mm_v ad)))) : W p l e R s m args below meth c H locs cells slots Q (F0 m pc ls (st.map (mm_v ad))) := by
  have hk : len = 3 := by simpa [mm_okl] using hk
  subst hk
  simp only [mm_pure] at h
  split at h
  · rename_i y x r; rw [cond_eq_if] at h; split at h
    · rename_i hi; have hi := of_decide_eq_true hi; simp only [Option.some.injEq, Prod.mk.injEq] at h; obtain ⟨rfl, rfl, rfl⟩ := h
      refine lv_icmp_lt (tgt := ((pc : Int) + off).toNat) hx hb hd (Int.toNat_of_nonneg hi).symm (fun q => ?_) (fun q => ?_)
      · have h1 := k ls hl; rw [decide_eq_true q] at h1; exact h1
      · have h1 := k ls hl; rw [decide_eq_false q] at h1; exact h1
    · cases h
  · cases h
theorem mm_k_if_ge (hx : p.tables.exec = Jvm.exec) (hb : c.code = cc) (hl : mm_has ad lo ls) {off : Int} (hd : decode cc pc = .ok (.ifCond .ge off, len)) (hk : mm_okl (.ifCond .ge off) len = true) {pc2 : Nat} {lo2 : List (Option Value)} {st2 : List Value} (h : mm_pure (.ifCond .ge off) pc len lo st = some (pc2, lo2, st2)) (k : ∀ ls2, mm_has ad lo2 ls2 → W p l e R s m args below meth c H locs cells slots Q (F0 m pc2 ls2 (st2.map (mm_v ad)))) : W p l e R s m args below meth c H locs cells slots Q (F0 m pc ls (st.map (mm_v ad))) := by
  have hk : len = 3 := by simpa [mm_okl] using hk
  subst hk
  simp only [mm_pure] at h
  split at h
  · rename_i x r; rw [cond_eq_if] at h; split at h
    · rename_i hi; have hi := of_decide_eq_true hi; simp only [Option.some.injEq, Prod.mk.injEq] at h; obtain ⟨rfl, rfl, rfl⟩ := h
      refine lv_if_ge (tgt := ((pc : Int) + off).toNat) hx hb hd (Int.toNat_of_nonneg hi).symm (fun q => ?_) (fun q => ?_)
      · have h1 := k ls hl; rw [decide_eq_true q] at h1; exact h1
      · have h1 := k ls hl; rw [decide_eq_false q] at h1; exact h1
    · cases h
  · cases h
theorem mm_k_icmp_ge (hx : p.tables.exec = Jvm.exec) (hb : c.code = cc) (hl : mm_has ad lo ls) {off : Int} (hd : decode cc pc = .ok (.if_icmp .ge off, len)) (hk : mm_okl (.if_icmp .ge off) len = true) {pc2 : Nat} {lo2 : List (Option Value)} {st2 : List Value} (h : mm_pure (.if_icmp .ge off) pc len lo st = some (pc2, lo2, st2)) (k : ∀ ls2, mm_has ad lo2 ls2 → W p l e R s m args below meth c H locs cells slots Q (F0 m pc2 ls2 (st2.map (mm_v ad)))) : W p l e R s m args below meth c H locs cells slots Q (F0 m pc ls (st.map (mm_v ad))) := by
  have hk : len = 3 := by simpa [mm_okl] using hk
  subst hk
  simp only [mm_pure] at h
  split at h
  · rename_i y x r; rw [cond_eq_if] at h; split at h
    · rename_i hi; have hi := of_decide_eq_true hi; simp only [Option.some.injEq, Prod.mk.injEq] at h; obtain ⟨rfl, rfl, rfl⟩ := h
      refine lv_icmp_ge (tgt := ((pc : Int) + off).toNat) hx hb hd (Int.toNat_of_nonneg hi).symm (fun q => ?_) (fun q => ?_)
      · have h1 := k ls hl; rw [decide_eq_true q] at h1; exact h1
      · have h1 := k ls hl; rw [decide_eq_false q] at h1; exact h1
    · cases h
  · cases h
theorem mm_k_if_gt (hx : p.tables.exec = Jvm.exec) (hb : c.code = cc) (hl : mm_has ad lo ls) {off : Int} (hd : decode cc pc = .ok (.ifCond .gt off, len)) (hk : mm_okl (.ifCond .gt off) len = true) {pc2 : Nat} {lo2 : List (Option Value)} {st2 : List Value} (h : mm_pure (.ifCond .gt off) pc len lo st = some (pc2, lo2, st2)) (k : ∀ ls2, mm_has ad lo2 ls2 → W p l e R s m args below meth c H locs cells slots Q (F0 m pc2 ls2 (st2.map (mm_v ad)))) : W p l e R s m args below meth c H locs cells slots Q (F0 m pc ls (st.map (mm_v ad))) := by
  have hk : len = 3 := by simpa [mm_okl] using hk
  subst hk
  simp only [mm_pure] at h
  split at h
  · rename_i x r; rw [cond_eq_if] at h; split at h
    · rename_i hi; have hi := of_decide_eq_true hi; simp only [Option.some.injEq, Prod.mk.injEq] at h; obtain ⟨rfl, rfl, rfl⟩ := h
      refine lv_if_gt (tgt := ((pc : Int) + off).toNat) hx hb hd (Int.toNat_of_nonneg hi).symm (fun q => ?_) (fun q => ?_)
      · have h1 := k ls hl; rw [decide_eq_true q] at h1; exact h1
      · have h1 := k ls hl; rw [decide_eq_false q] at h1; exact h1
    · cases h
  · cases h
theorem mm_k_icmp_gt (hx : p.tables.exec = Jvm.exec) (hb : c.code = cc) (hl : mm_has ad lo ls) {off : Int} (hd : decode cc pc = .ok (.if_icmp .gt off, len)) (hk : mm_okl (.if_icmp .gt off) len = true) {pc2 : Nat} {lo2 : List (Option Value)} {st2 : List Value} (h : mm_pure (.if_icmp .gt off) pc len lo st = some (pc2, lo2, st2)) (k : ∀ ls2, mm_has ad lo2 ls2 → W p l e R s m args below meth c H locs cells slots Q (F0 m pc2 ls2 (st2.map (mm_v ad)))) : W p l e R s m args below meth c H locs cells slots Q (F0 m pc ls (st.map (mm_v ad))) := by
  have hk : len = 3 := by simpa [mm_okl] using hk
  subst hk
  simp only [mm_pure] at h
  split at h
  · rename_i y x r; rw [cond_eq_if] at h; split at h
    · rename_i hi; have hi := of_decide_eq_true hi; simp only [Option.some.injEq, Prod.mk.injEq] at h; obtain ⟨rfl, rfl, rfl⟩ := h
      refine lv_icmp_gt (tgt := ((pc : Int) + off).toNat) hx hb hd (Int.toNat_of_nonneg hi).symm (fun q => ?_) (fun q => ?_)
      · have h1 := k ls hl; rw [decide_eq_true q] at h1; exact h1
      · have h1 := k ls hl; rw [decide_eq_false q] at h1; exact h1
    · cases h
  · cases h
theorem mm_k_if_le (hx : p.tables.exec = Jvm.exec) (hb : c.code = cc) (hl : mm_has ad lo ls) {off : Int} (hd : decode cc pc = .ok (.ifCond .le off, len)) (hk : mm_okl (.ifCond .le off) len = true) {pc2 : Nat} {lo2 : List (Option Value)} {st2 : List Value} (h : mm_pure (.ifCond .le off) pc len lo st = some (pc2, lo2, st2)) (k : ∀ ls2, mm_has ad lo2 ls2 → W p l e R s m args below meth c H locs cells slots Q (F0 m pc2 ls2 (st2.map (mm_v ad)))) : W p l e R s m args below meth c H locs cells slots Q (F0 m pc ls (st.map (mm_v ad))) := by
  have hk : len = 3 := by simpa [mm_okl] using hk
  subst hk
  simp only [mm_pure] at h
  split at h
  · rename_i x r; rw [cond_eq_if] at h; split at h
    · rename_i hi; have hi := of_decide_eq_true hi; simp only [Option.some.injEq, Prod.mk.injEq] at h; obtain ⟨rfl, rfl, rfl⟩ := h
      refine lv_if_le (tgt := ((pc : Int) + off).toNat) hx hb hd (Int.toNat_of_nonneg hi).symm (fun q => ?_) (fun q => ?_)
      · have h1 := k ls hl; rw [decide_eq_true q] at h1; exact h1
      · have h1 := k ls hl; rw [decide_eq_false q] at h1; exact h1
    · cases h
  · cases h
theorem mm_k_icmp_le (hx : p.tables.exec = Jvm.exec) (hb : c.code = cc) (hl : mm_has ad lo ls) {off : Int} (hd : decode cc pc = .ok (.if_icmp .le off, len)) (hk : mm_okl (.if_icmp .le off) len = true) {pc2 : Nat} {lo2 : List (Option Value)} {st2 : List Value} (h : mm_pure (.if_icmp .le off) pc len lo st = some (pc2, lo2, st2)) (k : ∀ ls2, mm_has ad lo2 ls2 → W p l e R s m args below meth c H locs cells slots Q (F0 m pc2 ls2 (st2.map (mm_v ad)))) : W p l e R s m args below meth c H locs cells slots Q (F0 m pc ls (st.map (mm_v ad))) := by
  have hk : len = 3 := by simpa [mm_okl] using hk
  subst hk
  simp only [mm_pure] at h
  split at h
  · rename_i y x r; rw [cond_eq_if] at h; split at h
    · rename_i hi; have hi := of_decide_eq_true hi; simp only [Option.some.injEq, Prod.mk.injEq] at h; obtain ⟨rfl, rfl, rfl⟩ := h
      refine lv_icmp_le (tgt := ((pc : Int) + off).toNat) hx hb hd (Int.toNat_of_nonneg hi).symm (fun q => ?_) (fun q => ?_)
      · have h1 := k ls hl; rw [decide_eq_true q] at h1; exact h1
      · have h1 := k ls hl; rw [decide_eq_false q] at h1; exact h1
    · cases h
  · cases h
theorem mm_k_goto (hx : p.tables.exec = Jvm.exec) (hb : c.code = cc) (hl : mm_has ad lo ls) {off : Int} (hd : decode cc pc = .ok (.goto off, len)) (hk : mm_okl (.goto off) len = true) {pc2 : Nat} {lo2 : List (Option Value)} {st2 : List Value} (h : mm_pure (.goto off) pc len lo st = some (pc2, lo2, st2)) (k : ∀ ls2, mm_has ad lo2 ls2 → W p l e R s m args below meth c H locs cells slots Q (F0 m pc2 ls2 (st2.map (mm_v ad)))) : W p l e R s m args below meth c H locs cells slots Q (F0 m pc ls (st.map (mm_v ad))) := by
  have hk : len = 3 := by simpa [mm_okl] using hk
  subst hk
  simp only [mm_pure] at h
  rw [cond_eq_if] at h; split at h
  · rename_i hi; have hi := of_decide_eq_true hi; simp only [Option.some.injEq, Prod.mk.injEq] at h; obtain ⟨rfl, rfl, rfl⟩ := h; exact lv_goto hx hb hd (Int.toNat_of_nonneg hi).symm (k ls hl)
  · cases h
set_option maxHeartbeats 1000000 in
/-- a plain instruction of the small machine is one of the machine -/
theorem mm_plain (hx : p.tables.exec = Jvm.exec) (hb : c.code = cc) (hl : mm_has ad lo ls) {ins : Instr} (hd : decode cc pc = .ok (ins, len)) (hk : mm_okl ins len = true) {pc2 : Nat} {lo2 : List (Option Value)} {st2 : List Value} (h : mm_pure ins pc len lo st = some (pc2, lo2, st2)) (k : ∀ ls2, mm_has ad lo2 ls2 → W p l e R s m args below meth c H locs cells slots Q (F0 m pc2 ls2 (st2.map (mm_v ad)))) : W p l e R s m args below meth c H locs cells slots Q (F0 m pc ls (st.map (mm_v ad))) := by
  cases ins with
  | iconst a => exact mm_k_iconst hx hb hl hd hk h k
  | bipush a => exact mm_k_bipush hx hb hl hd hk h k
  | sipush a => exact mm_k_sipush hx hb hl hd hk h k
  | lconst a => exact mm_k_lconst hx hb hl hd hk h k
  | iload a => exact mm_k_iload hx hb hl hd hk h k
  | iload_n a => exact mm_k_iload_n hx hb hl hd hk h k
  | lload a => exact mm_k_lload hx hb hl hd hk h k
  | lload_n a => exact mm_k_lload_n hx hb hl hd hk h k
  | aload a => exact mm_k_aload hx hb hl hd hk h k
  | aload_n a => exact mm_k_aload_n hx hb hl hd hk h k
  | istore a => exact mm_k_istore hx hb hl hd hk h k
  | istore_n a => exact mm_k_istore_n hx hb hl hd hk h k
  | lstore a => exact mm_k_lstore hx hb hl hd hk h k
  | lstore_n a => exact mm_k_lstore_n hx hb hl hd hk h k
  | astore a => exact mm_k_astore hx hb hl hd hk h k
  | astore_n a => exact mm_k_astore_n hx hb hl hd hk h k
  | iinc i n => exact mm_k_iinc hx hb hl hd hk h k
  | iadd => exact mm_k_iadd hx hb hl hd hk h k
  | isub => exact mm_k_isub hx hb hl hd hk h k
  | imul => exact mm_k_imul hx hb hl hd hk h k
  | iand => exact mm_k_iand hx hb hl hd hk h k
  | ior => exact mm_k_ior hx hb hl hd hk h k
  | ixor => exact mm_k_ixor hx hb hl hd hk h k
  | ishl => exact mm_k_ishl hx hb hl hd hk h k
  | ishr => exact mm_k_ishr hx hb hl hd hk h k
  | iushr => exact mm_k_iushr hx hb hl hd hk h k
  | ladd => exact mm_k_ladd hx hb hl hd hk h k
  | lsub => exact mm_k_lsub hx hb hl hd hk h k
  | lmul => exact mm_k_lmul hx hb hl hd hk h k
  | land => exact mm_k_land hx hb hl hd hk h k
  | lor => exact mm_k_lor hx hb hl hd hk h k
  | lxor => exact mm_k_lxor hx hb hl hd hk h k
  | lshl => exact mm_k_lshl hx hb hl hd hk h k
  | lshr => exact mm_k_lshr hx hb hl hd hk h k
  | lushr => exact mm_k_lushr hx hb hl hd hk h k
  | ineg => exact mm_k_ineg hx hb hl hd hk h k
  | i2l => exact mm_k_i2l hx hb hl hd hk h k
  | l2i => exact mm_k_l2i hx hb hl hd hk h k
  | lcmp => exact mm_k_lcmp hx hb hl hd hk h k
  | idiv => exact mm_k_idiv hx hb hl hd hk h k
  | irem => exact mm_k_irem hx hb hl hd hk h k
  | ldiv => exact mm_k_ldiv hx hb hl hd hk h k
  | dup => exact mm_k_dup hx hb hl hd hk h k
  | pop => exact mm_k_pop hx hb hl hd hk h k
  | pop2 => exact mm_k_pop2 hx hb hl hd hk h k
  | dup2 => exact mm_k_dup2 hx hb hl hd hk h k
  | goto a => exact mm_k_goto hx hb hl hd hk h k
  | ifCond q off => cases q with
    | eq => exact mm_k_if_eq hx hb hl hd hk h k
    | ne => exact mm_k_if_ne hx hb hl hd hk h k
    | lt => exact mm_k_if_lt hx hb hl hd hk h k
    | ge => exact mm_k_if_ge hx hb hl hd hk h k
    | gt => exact mm_k_if_gt hx hb hl hd hk h k
    | le => exact mm_k_if_le hx hb hl hd hk h k
  | if_icmp q off => cases q with
    | eq => exact mm_k_icmp_eq hx hb hl hd hk h k
    | ne => exact mm_k_icmp_ne hx hb hl hd hk h k
    | lt => exact mm_k_icmp_lt hx hb hl hd hk h k
    | ge => exact mm_k_icmp_ge hx hb hl hd hk h k
    | gt => exact mm_k_icmp_gt hx hb hl hd hk h k
    | le => exact mm_k_icmp_le hx hb hl hd hk h k
  | _ => cases h
end MM
