/-! THE SMALL MACHINE'S RUN -/
abbrev mm_S : Type := Nat × List (Option Value) × List Value × mm_M
/-- an end: returned, or thrown (its kind) -/
abbrev mm_R : Type := Option Value ⊕ Nat
def mm_arg : List Value → List (Option Value)
  | [] => []
  | .long x :: r => some (.long x) :: none :: mm_arg r
  | .double x :: r => some (.double x) :: none :: mm_arg r
  | v :: r => some v :: mm_arg r
def mm_ent (ml : Nat) (as : List Value) : List (Option Value) := mm_arg as ++ List.replicate (ml - (mm_arg as).length) none
def mm_pop : Nat → List Value → List Value → Option (List Value × List Value)
  | 0, acc, st => some (acc, st)
  | n + 1, acc, v :: st => mm_pop n (v :: acc) st
  | _ + 1, _, [] => none
def mm_cats : List Value → Nat
  | [] => 0
  | v :: r => v.category + mm_cats r
/-- a switch -/
def mm_swi (ins : Instr) (pc : Nat) (st : List Value) : Option (Nat × List Value) := match ins with
  | .tableswitch d lo hi offs => match st with
    | .int x :: r => bif decide (x.toInt < lo) || decide (hi < x.toInt) then (bif decide (0 ≤ (pc : Int) + d) then some (((pc : Int) + d).toNat, r) else none)
      else match offs[(x.toInt - lo).toNat]? with
        | some off => bif decide (0 ≤ (pc : Int) + off) then some (((pc : Int) + off).toNat, r) else none
        | none => none
    | _ => none
  | .lookupswitch d ps => match st with
    | .int x :: r => bif (ps.toList.zip (ps.toList.drop 1)).all (fun (a, next) => a.1 < next.1) && decide (0 ≤ (pc : Int) + Op.lookupswitch.offset ps.toList d x.toInt) then some (((pc : Int) + Op.lookupswitch.offset ps.toList d x.toInt).toNat, r) else none
    | _ => none
  | _ => none
/-- a return -/
def mm_ret (k : Nat) (ins : Instr) (st : List Value) : Option (Option Value) := match ins, st with
  | .ireturn, [.int v] => match mm_rt k with
    | some .int => some (some (.int v))
    | some .boolean => bif v == 0 || v == 1 then some (some (.int v)) else none
    | _ => none
  | .lreturn, [.long v] => match mm_rt k with
    | some .long => some (some (.long v))
    | _ => none
  | .return_, [] => match mm_rt k with
    | none => some none
    | _ => none
  | _, _ => none
/-- Math's two, and the copy of ints -/
def mm_intr (o : Nat) (ins : Instr) (st : List Value) (M : mm_M) : Option (List Value × mm_M) := match ins with
  | .invokestatic idx => match mm_int o idx with
    | some 0 => match st with | .int y :: .int x :: r => bif decide (mm_cats r ≤ 8) then some (.int (if y < x then y else x) :: r, M) else none | _ => none
    | some 1 => match st with | .int y :: .int x :: r => bif decide (mm_cats r ≤ 8) then some (.int (if x < y then y else x) :: r, M) else none | _ => none
    | some 2 => match st with
      | .int n :: .int dp :: .ref d :: .int sp :: .ref sr :: r => match mm_aat 0 sr, mm_aat 0 d with
        | some n0, some n1 => bif !(decide (sp < 0)) && !(decide (dp < 0)) && !(decide (n < 0)) && decide (sp.toNatClampNeg + n.toNatClampNeg ≤ n0) && decide (dp.toNatClampNeg + n.toNatClampNeg ≤ n1) && decide (mm_cats r ≤ 8) then some (r, (fun q j => if q = d then va_cpy (M.1 sr) (M.1 d) sp.toNatClampNeg dp.toNatClampNeg n.toNatClampNeg j else M.1 q j, M.2.1, M.2.2)) else none
        | _, _ => none
      | _ => none
    | _ => none
  | _ => none
/-- the class of the object at p -/
def mm_cls (p : Nat) : Option Nat := match mm_nth mm_sh p with
  | some (.inl (c, _)) => some c
  | _ => none
/-- a call: the method, its arguments, what is left of the stack -/
def mm_cal (k : Nat) (ins : Instr) (st : List Value) : Option (Nat × List Value × List Value) := match ins with
  | .invokestatic idx => match mm_call (mm_own k) idx with
    | some (k2, q) => bif q == 2 then none else match mm_pop (mm_np k2) [] st with
      | some (as, r) => bif decide ((mm_arg as).length ≤ mm_ml k2) && decide (mm_cats r ≤ 8) then some (k2, as, r) else none
      | none => none
    | none => none
  | .invokevirtual idx => match mm_call (mm_own k) idx with
    | some (k2, q) => bif q == 2 then match mm_pop (mm_np k2 + 1) [] st with
      | some (.ref p :: as, r) => bif decide (mm_cls p = some (mm_own k2)) && decide ((mm_arg (.ref p :: as)).length ≤ mm_ml k2) && decide (mm_cats r ≤ 8) then some (k2, .ref p :: as, r) else none
      | _ => none else none
    | none => none
  | _ => none
/-- where an exception of kind x goes that comes out of a call at pc: none: not told; some none: out of the method; some (some (h, i)): to the handler, whose first instruction puts it into local i and goes on at h -/
def mm_hnd (k pc x : Nat) : Option (Option (Nat × Nat)) := match mm_hs k with
  | [] => some none
  | [(a, b, h, t)] => bif decide (a ≤ pc) && decide (pc < b) then (bif decide ((k, t, x) ∈ [(0, 13, 3), (1, 19, 1), (2, 25, 2), (3, 13, 3), (4, 19, 1), (5, 25, 2), (6, 25, 2), (7, 19, 1), (8, 19, 1), (9, 19, 1), (10, 25, 2), (11, 25, 2), (17, 169, 0)]) then
      match mm_look (mm_cd k) h with
      | some (.astore_n i, 1) => some (some (h + 1, i))
      | some (.astore i, 2) => some (some (h + 2, i))
      | _ => none
    else none) else some none
  | _ => none
/-- local i is not known any more -/
def mm_frg (lo : List (Option Value)) (i : Nat) : List (Option Value) := mm_cut (mm_st1 lo i .null) i
def mm_run (L : Nat) (xs : Nat → Int32) : Nat → Nat → Nat → mm_S → Option (mm_R × mm_M)
  | 0, _, _, _ => none
  | n + 1, d, k, (pc, lo, st, M) => match mm_look (mm_cd k) pc with
    | none => none
    | some (ins, len) => match mm_pure ins pc len lo st with
      | some (pc2, lo2, st2) => mm_run L xs n d k (pc2, lo2, st2, M)
      | none => match mm_heap (mm_own k) L xs ins pc st M with
        | some (pc2, st2, M2) => mm_run L xs n d k (pc2, lo, st2, M2)
        | none => match mm_swi ins pc st with
          | some (pc2, st2) => mm_run L xs n d k (pc2, lo, st2, M)
          | none => match mm_ret k ins st with
            | some v => some (.inl v, M)
            | none => match mm_intr (mm_own k) ins st M with
              | some (st2, M2) => bif decide (2 ≤ d) then mm_run L xs n d k (pc + 3, lo, st2, M2) else none
              | none => match mm_thr k pc with
                | some e => bif decide (7 ≤ d) && decide (mm_cats st ≤ 8) then some (.inr e.2.2.1, (M.1, M.2.1, M.2.2 + 1)) else none
                | none => match mm_cal k ins st with
                  | none => none
                  | some (k2, as, r) => match d with
                    | 0 => none
                    | d2 + 1 => match mm_run L xs n d2 k2 (0, mm_ent (mm_ml k2) as, [], M) with
                      | none => none
                      | some (.inl v, M2) => mm_run L xs n (d2 + 1) k (pc + 3, lo, v.toList ++ r, M2)
                      | some (.inr x, M2) => match mm_hnd k pc x with
                        | none => none
                        | some none => some (.inr x, M2)
                        | some (some (h, i)) => bif decide (i < lo.length) then mm_run L xs n (d2 + 1) k (h, mm_frg lo i, [], M2) else none
theorem mm_putf_tc {o idx p : Nat} {v : Value} {M M2 : mm_M} (h : mm_putf o idx p v M = some M2) : M2.2.2 = M.2.2 := by
  unfold mm_putf at h
  split at h
  · split at h
    · cases h; rfl
    · rw [cond_eq_if] at h
      split at h
      · cases h; rfl
      · cases h
    · cases h; rfl
    · cases h
  · cases h
theorem mm_heap_tc {o L : Nat} {xs : Nat → Int32} {ins : Instr} {pc pc2 : Nat} {st st2 : List Value} {M M2 : mm_M} (h : mm_heap o L xs ins pc st M = some (pc2, st2, M2)) : M2.2.2 = M.2.2 := by
  cases ins <;> simp only [mm_heap] at h <;> (try (cases h; done)) <;> (try (split at h)) <;> (try (cases h; done)) <;> (try (simp only [Option.map_eq_some_iff] at h; obtain ⟨v, h1, h2⟩ := h; cases h2; first | rfl | exact mm_putf_tc h1)) <;> (try (split at h)) <;> (try (cases h; done)) <;> (try (rw [cond_eq_if] at h; split at h)) <;> (try (cases h; done)) <;> (try (cases h; rfl))
theorem mm_intr_tc {o : Nat} {ins : Instr} {st st2 : List Value} {M M2 : mm_M} (h : mm_intr o ins st M = some (st2, M2)) : M2.2.2 = M.2.2 := by
  unfold mm_intr at h
  split at h
  · split at h
    · split at h
      · rw [cond_eq_if] at h; split at h <;> cases h; rfl
      · cases h
    · split at h
      · rw [cond_eq_if] at h; split at h <;> cases h; rfl
      · cases h
    · split at h
      · split at h
        · rw [cond_eq_if] at h; split at h <;> cases h; rfl
        · cases h
      · cases h
    · cases h
  · cases h
theorem mm_run_tc (L : Nat) (xs : Nat → Int32) : ∀ (n d k : Nat) (S : mm_S) (r : mm_R) (M2 : mm_M), mm_run L xs n d k S = some (r, M2) → S.2.2.2.2.2 ≤ M2.2.2 := by
  intro n
  induction n with
  | zero => intro d k S r M2 h; cases h
  | succ n ih =>
    intro d k S r M2 h
    obtain ⟨pc, lo, st, M⟩ := S
    simp only [mm_run] at h
    split at h
    · cases h
    · split at h
      · have h1 := ih _ _ _ _ _ h; exact h1
      · split at h
        · rename_i hh; have h1 := ih _ _ _ _ _ h; have h2 := mm_heap_tc hh; dsimp only at h1 ⊢; omega
        · split at h
          · have h1 := ih _ _ _ _ _ h; exact h1
          · split at h
            · cases h; exact Nat.le_refl _
            · split at h
              · rename_i hh; rw [cond_eq_if] at h; split at h
                · have h1 := ih _ _ _ _ _ h; have h2 := mm_intr_tc hh; dsimp only at h1 ⊢; omega
                · cases h
              · split at h
                · rw [cond_eq_if] at h; split at h
                  · cases h; exact Nat.le_succ _
                  · cases h
                · split at h
                  · cases h
                  · split at h
                    · cases h
                    · split at h
                      · cases h
                      · rename_i hh; have h1 := ih _ _ _ _ _ h; have h2 := ih _ _ _ _ _ hh; dsimp only at h1 h2 ⊢; omega
                      · rename_i hh; have h2 := ih _ _ _ _ _ hh
                        split at h
                        · cases h
                        · cases h; exact h2
                        · rw [cond_eq_if] at h; split at h
                          · have h1 := ih _ _ _ _ _ h; dsimp only at h1 h2 ⊢; omega
                          · cases h
theorem mm_pure_len {ins : Instr} {pc len pc2 : Nat} {lo lo2 : List (Option Value)} {st st2 : List Value} (h : mm_pure ins pc len lo st = some (pc2, lo2, st2)) : lo2.length = lo.length := by
  unfold mm_pure at h
  split at h <;> (try (split at h)) <;> (try (cases h; done)) <;> (try (rw [cond_eq_if] at h; split at h)) <;> (try (cases h; done)) <;> (try (simp only [Option.some.injEq, Prod.mk.injEq] at h; obtain ⟨-, rfl, -⟩ := h)) <;> (try rfl) <;> (try (simp [mm_st2, mm_cut_len, mm_st1_len]))
theorem mm_frg_len (lo : List (Option Value)) (i : Nat) : (mm_frg lo i).length = lo.length := by simp [mm_frg, mm_cut_len, mm_st1_len]
theorem mm_cats_map (ad : Nat → Nat) : ∀ (st : List Value), ((st.map (mm_v ad)).map fun v => v.category).sum = mm_cats st
  | [] => rfl
  | v :: r => by simp only [List.map_cons, List.sum_cons, mm_v_cat, mm_cats, mm_cats_map ad r]
theorem mm_pop_ok : ∀ (n : Nat) (acc st as r : List Value), mm_pop n acc st = some (as, r) → ∃ ys, ys.length = n ∧ st = ys ++ r ∧ as = ys.reverse ++ acc
  | 0, acc, st, as, r, h => by cases h; exact ⟨[], rfl, rfl, rfl⟩
  | n + 1, acc, v :: st, as, r, h => by
    obtain ⟨ys, h1, h2, h3⟩ := mm_pop_ok n (v :: acc) st as r h
    exact ⟨v :: ys, by simp [h1], by simp [h2], by simp [h3]⟩
  | n + 1, acc, [], as, r, h => by cases h
/-- the locals at a method's entry -/
theorem mm_arg_at (ad : Nat → Nat) : ∀ (as : List Value) (b i : Nat) (v : Value), (mm_arg as)[i]? = some (some v) → (b + i, mm_v ad v) ∈ lv_args b (as.map (mm_v ad))
  | [], b, i, v, h => by simp [mm_arg] at h
  | x :: r, b, i, v, h => by
    have key : ∀ (y : Value), y.category ≠ 2 → (some y :: mm_arg r)[i]? = some (some v) → (b + i, mm_v ad v) ∈ (b, mm_v ad y) :: lv_args (b + 1) (r.map (mm_v ad)) := by
      intro y hy hi
      cases i with
      | zero => simp at hi; subst hi; exact List.mem_cons_self
      | succ i =>
        have := mm_arg_at ad r (b + 1) i v (by simpa using hi)
        rw [show b + (i + 1) = b + 1 + i by omega]
        exact List.mem_cons_of_mem _ this
    have key2 : ∀ (y : Value), y.category = 2 → (some y :: none :: mm_arg r)[i]? = some (some v) → (b + i, mm_v ad v) ∈ (b, mm_v ad y) :: lv_args (b + 2) (r.map (mm_v ad)) := by
      intro y hy hi
      match i, hi with
      | 0, hi => simp at hi; subst hi; exact List.mem_cons_self
      | 1, hi => simp at hi
      | i + 2, hi =>
        have := mm_arg_at ad r (b + 2) i v (by simpa using hi)
        rw [show b + (i + 2) = b + 2 + i by omega]
        exact List.mem_cons_of_mem _ this
    cases x with
    | long z => simpa [lv_args, mm_v, Value.category] using key2 (.long z) rfl h
    | double z => simpa [lv_args, mm_v, Value.category] using key2 (.double z) rfl h
    | int z => simpa [lv_args, mm_v, Value.category] using key (.int z) (by simp [Value.category]) h
    | float z => simpa [lv_args, mm_v, Value.category] using key (.float z) (by simp [Value.category]) h
    | null => simpa [lv_args, mm_v, Value.category] using key .null (by simp [Value.category]) h
    | ref z => simpa [lv_args, mm_v, Value.category] using key (.ref z) (by simp [Value.category]) h
    | retAddr z => simpa [lv_args, mm_v, Value.category] using key (.retAddr z) (by simp [Value.category]) h
theorem mm_sl_cons (v : Value) (vs : List Value) : lg_sl (v :: vs) = (if v.category = 2 then [Slot.val v, Slot.second] else [Slot.val v]) ++ lg_sl vs := by simp [lg_sl]
theorem mm_arg_sl (ad : Nat → Nat) : ∀ (as : List Value), (lg_sl (as.map (mm_v ad))).length = (mm_arg as).length
  | [] => rfl
  | x :: r => by
    rw [List.map_cons, mm_sl_cons, List.length_append, mm_arg_sl ad r, mm_v_cat]
    cases x <;> simp only [mm_arg, Value.category, List.length_cons] <;> simp <;> omega
theorem mm_ent_has (ad : Nat → Nat) {as : List Value} {n : Nat} (h : (mm_arg as).length ≤ n) : mm_has ad (mm_ent n as) ((lg_sl (as.map (mm_v ad)) ++ List.replicate (n - (lg_sl (as.map (mm_v ad))).length) Slot.unset).toArray) := by
  obtain ⟨h1, h2, h3⟩ := lv_entry (as.map (mm_v ad)) (n := n) (by rw [mm_arg_sl]; exact h)
  refine ⟨by rw [h1]; simp [mm_ent]; omega, h2, fun i v hv => ?_⟩
  unfold mm_ent at hv
  by_cases hi : i < (mm_arg as).length
  · rw [List.getElem?_append_left hi] at hv
    have := mm_arg_at ad as 0 i v hv
    simpa using h3 _ this
  · rw [List.getElem?_append_right (by omega)] at hv
    have := List.eq_of_mem_replicate (List.mem_of_getElem? hv)
    cases this
theorem mm_ent_len {as : List Value} {n : Nat} (h : (mm_arg as).length ≤ n) : (mm_ent n as).length = n := by simp [mm_ent]; omega
