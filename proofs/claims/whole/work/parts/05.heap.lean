/-! THE HEAP'S INSTRUCTIONS: fields, arrays, constants of the pool -/
def mm_row (j : Nat) : Int32 := ([16, 17, 18, 0, 8, 7, 9, 6, 10, 5, 11, 4, 12, 3, 13, 2, 14, 1, 15] : List Int32).getD j 0
def mm_val (M : mm_M) (p k : Nat) : mm_Fd → Value
  | .inl q => .ref q
  | .inr .long => .long (M.2.1 p k)
  | .inr _ => .int (M.1 p k)
theorem mm_v_val (ad : Nat → Nat) (M : mm_M) (p k : Nat) (f : mm_Fd) : mm_v ad (mm_val M p k f) = mm_fv ad M p k f := by
  match f with
  | .inl q => rfl
  | .inr t => cases t <;> rfl
/-- an index is in range -/
def mm_in (i : Int32) (n : Nat) : Bool := !(decide (i < 0)) && decide (i.toNatClampNeg < n)
theorem mm_in_ok' {i : Int32} {n : Nat} (h : mm_in i n = true) : vp_in i n := by
  simp only [mm_in, Bool.and_eq_true, Bool.not_eq_true', decide_eq_false_iff_not, decide_eq_true_eq] at h
  rintro (q | q)
  · exact h.1 q
  · omega
/-- the object at p is of class ci: its field k -/
def mm_fat (p ci k : Nat) : Option mm_Fd := match mm_nth mm_sh p with
  | some (.inl (c, fs)) => bif c == ci then mm_nth fs k else none
  | _ => none
theorem mm_fat_ok {p ci k : Nat} {f : mm_Fd} (h : mm_fat p ci k = some f) : ∃ fs, mm_nth mm_sh p = some (.inl (ci, fs)) ∧ mm_nth fs k = some f := by
  unfold mm_fat at h
  split at h
  · rename_i c fs hs
    cases q : c == ci with
    | true => rw [q] at h; rw [beq_iff_eq] at q; subst q; exact ⟨fs, hs, h⟩
    | false => rw [q] at h; cases h
  · cases h
/-- the array at p of a kind: its length -/
def mm_aat (kind p : Nat) : Option Nat := match mm_nth mm_sh p with
  | some (.inr (k, n)) => bif k == kind then some n else none
  | _ => none
theorem mm_aat_ok {kind p n : Nat} (h : mm_aat kind p = some n) : mm_nth mm_sh p = some (.inr (kind, n)) := by
  unfold mm_aat at h
  split at h
  · rename_i k m hs
    cases q : k == kind with
    | true => rw [q] at h; rw [beq_iff_eq] at q; subst q; cases h; exact hs
    | false => rw [q] at h; cases h
  · cases h
def mm_getf (o idx : Nat) (p : Nat) (M : mm_M) : Option Value := match mm_fld o idx with
  | some (ci, k) => (mm_fat p ci k).map (mm_val M p k)
  | none => none
def mm_putf (o idx : Nat) (p : Nat) (v : Value) (M : mm_M) : Option mm_M := match mm_fld o idx with
  | some (ci, k) => match mm_fat p ci k, v with
    | some (.inr .int), .int x => some (mm_pi M p k x)
    | some (.inr .boolean), .int x => bif x == 0 || x == 1 then some (mm_pi M p k x) else none
    | some (.inr .long), .long x => some (mm_pl M p k x)
    | _, _ => none
  | none => none
/-- an element of an int array: the script is at 200, the row of the class's constant at 201 -/
def mm_ild (L : Nat) (xs : Nat → Int32) (p : Nat) (i : Int32) (M : mm_M) : Option Int32 :=
  match mm_aat 0 p with
  | some n => bif mm_in i n then some (M.1 p i.toNatClampNeg) else none
  | none => bif p == 200 then (bif mm_in i L then some (xs i.toNatClampNeg) else none) else bif p == 201 then (bif mm_in i 19 then some (mm_row i.toNatClampNeg) else none) else none
def mm_len (L : Nat) (p : Nat) : Option Int32 := match mm_nth mm_sh p with
  | some (.inr (k, n)) => bif decide (k < 3) then some (Int32.ofNat n) else none
  | some (.inl _) => none
  | none => bif p == 200 then some (Int32.ofNat L) else bif p == 201 then some 19 else none
def mm_heap (o L : Nat) (xs : Nat → Int32) (ins : Instr) (pc : Nat) (st : List Value) (M : mm_M) : Option (Nat × List Value × mm_M) :=
  match ins with
  | .getfield idx => match st with | .ref p :: r => (mm_getf o idx p M).map (fun v => (pc + 3, v :: r, M)) | _ => none
  | .putfield idx => match st with | v :: .ref p :: r => (mm_putf o idx p v M).map (fun M2 => (pc + 3, r, M2)) | _ => none
  | .iaload => match st with | .int i :: .ref p :: r => (mm_ild L xs p i M).map (fun v => (pc + 1, .int v :: r, M)) | _ => none
  | .laload => match st with
    | .int i :: .ref p :: r => match mm_aat 1 p with
      | some n => bif mm_in i n then some (pc + 1, .long (M.2.1 p i.toNatClampNeg) :: r, M) else none
      | none => none
    | _ => none
  | .aaload => match st with
    | .int i :: .ref p :: r => match mm_aat 2 p with
      | some n => bif mm_in i n then some (pc + 1, .ref (mm_tab i.toNatClampNeg) :: r, M) else none
      | none => none
    | _ => none
  | .iastore => match st with
    | .int x :: .int i :: .ref p :: r => match mm_aat 0 p with
      | some n => bif mm_in i n then some (pc + 1, r, mm_pi M p i.toNatClampNeg x) else none
      | none => none
    | _ => none
  | .lastore => match st with
    | .long x :: .int i :: .ref p :: r => match mm_aat 1 p with
      | some n => bif mm_in i n then some (pc + 1, r, mm_pl M p i.toNatClampNeg x) else none
      | none => none
    | _ => none
  | .arraylength => match st with | .ref p :: r => (mm_len L p).map (fun v => (pc + 1, .int v :: r, M)) | _ => none
  | .ldc idx => (mm_cst o idx).map (fun v => (pc + 2, .int v :: st, M))
  | .ldc_w idx => (mm_cst o idx).map (fun v => (pc + 3, .int v :: st, M))
  | .ldc2_w idx => (mm_csl o idx).map (fun v => (pc + 3, .long v :: st, M))
  | .getstatic idx => bif o == 6 && idx == 23 then some (pc + 3, .ref 201 :: st, M) else none
  | _ => none
/-- the lengths of these -/
def mm_okh (ins : Instr) (len : Nat) : Bool := match ins with
  | .getfield _ | .putfield _ | .ldc_w _ | .ldc2_w _ | .getstatic _ => len == 3
  | .ldc _ => len == 2
  | _ => len == 1
def mm_tys (cs : mm_C) : List (ClassId × FieldType) := [(cs.1, .int), (cs.2.1, .long), (cs.2.2, .object "PlainPacks$Codes")]
/-- what holds of the outside of the memory all along a method's run: the script, the class's constant row -/
def mm_Out (A : Nat → Prop) (ad : Nat → Nat) (L : Nat) (xs : Nat → Int32) (s : State) : Prop :=
  va_X (ad 200) L xs s s.heap ∧ ad 200 < s.heap.size ∧ ¬ A (ad 200) ∧ va_T .int (ad 201) 19 (fun j => .int (mm_row j)) A s s.heap ∧ va_Z "PlainPacks$Blocks" "ROW_ORDER" "[I" (.ref (ad 201)) A s s.heap
section MH
variable {p : Program} {l : Launch} {e : Env} {R : Room} {s : State} {m : MethodId} {args : Array Value} {below : List Frame} {meth : Method} {c : Code} {H : Heap} {locs : List Loc} {cells slots : Nat} {Q : State → Prop}
variable {cc : ByteArray} {pc len : Nat} {ls : Array Slot} {st : List Value} {ad : Nat → Nat} {D : va_G} {cs : mm_C} {A : Nat → Prop} {M : mm_M} {o L : Nat} {xs : Nat → Int32}
theorem mm_ws_obj {p ci : Nat} {fs : List mm_Fd} (h : mm_nth mm_sh p = some (.inl (ci, fs))) : (mm_ws cs ad M)[p]? = some (ad p, .inr (ci, mm_fvs ad M p 0 fs)) := by rw [mm_ws_at, h]; rfl
theorem mm_ws_ints {p n : Nat} (h : mm_nth mm_sh p = some (.inr (0, n))) : (mm_ws cs ad M)[p]? = some (ad p, .inl (cs.1, n, .inl (M.1 p))) := by rw [mm_ws_at, h]; rfl
theorem mm_ws_longs {p n : Nat} (h : mm_nth mm_sh p = some (.inr (1, n))) : (mm_ws cs ad M)[p]? = some (ad p, .inl (cs.2.1, n, .inr (.inl (M.2.1 p)))) := by rw [mm_ws_at, h]; rfl
theorem mm_ws_refs {p n : Nat} (h : mm_nth mm_sh p = some (.inr (2, n))) : (mm_ws cs ad M)[p]? = some (ad p, .inl (cs.2.2, n, .inr (.inr (.inr (.inr (fun i => some (ad (mm_tab i)))))))) := by rw [mm_ws_at, h]; rfl
theorem mm_nar_int (x : Int32) : narrow .int (.int x) = .int x ∧ fits .int (.int x) = true := ⟨rfl, rfl⟩
theorem mm_nar_bool {x : Int32} (h : (x == 0 || x == 1) = true) : narrow .boolean (.int x) = .int x ∧ fits .boolean (.int x) = true := by
  simp only [Bool.or_eq_true, beq_iff_eq] at h
  rcases h with rfl | rfl <;> exact ⟨by decide +kernel, by decide +kernel⟩
theorem mm_nar_long (x : Int64) : narrow .long (.long x) = .long x ∧ fits .long (.long x) = true := ⟨rfl, rfl⟩
theorem mm_lt_fvs {p k : Nat} {fs : List mm_Fd} {f : mm_Fd} (h : mm_nth fs k = some f) : k < (mm_fvs ad M p 0 fs).length := by
  rw [mm_fvs_len]
  rw [mm_nth_eq] at h
  exact (List.getElem?_eq_some_iff.mp h).1
theorem mm_row_link : Cond.fieldLink (mm_cn 6) 23 "PlainPacks$Blocks" "ROW_ORDER" "[I" ∈ mm_tbl := mm_tb (j := 257) (by decide +kernel)
set_option maxHeartbeats 2000000 in
theorem mm_heap_ok (hx : p.tables.exec = Jvm.exec) (hb : c.code = cc) (hown : s.vm.findClass (mm_cn o) = some m.cls) (hts : ∀ w ∈ mm_tbl, w.before args s = true) (hK : va_K D mm_cl (mm_tys cs) s) (hO : mm_Out A ad L xs s)
    (hP : va_P D mm_cl (mm_ws cs ad M) H) (hD : va_D A (mm_ws cs ad M)) (hS : va_S A s.heap H locs) {ins : Instr} (hd : decode cc pc = .ok (ins, len)) (hk : mm_okh ins len = true) {pc2 : Nat} {st2 : List Value} {M2 : mm_M} (h : mm_heap o L xs ins pc st M = some (pc2, st2, M2))
    (k : ∀ (H2 : Heap) (locs2 : List Loc), va_P D mm_cl (mm_ws cs ad M2) H2 → va_D A (mm_ws cs ad M2) → va_S A s.heap H2 locs2 → W p l e R s m args below meth c H2 locs2 cells slots Q (F0 m pc2 ls (st2.map (mm_v ad)))) :
    W p l e R s m args below meth c H locs cells slots Q (F0 m pc ls (st.map (mm_v ad))) := by
  obtain ⟨hX, hbl, hbA, hT, hZ⟩ := hO
  cases ins with
  | getfield idx =>
    have hk : len = 3 := by simpa [mm_okh] using hk
    subst hk
    simp only [mm_heap] at h
    split at h
    · rename_i q r
      unfold mm_getf at h
      cases hf : mm_fld o idx with
      | none => rw [hf] at h; cases h
      | some ck =>
        obtain ⟨ci, kk⟩ := ck
        rw [hf] at h
        dsimp only at h
        cases hg : mm_fat q ci kk with
        | none => rw [hg] at h; cases h
        | some f =>
          rw [hg] at h
          simp only [Option.map_some, Option.some.injEq, Prod.mk.injEq] at h
          obtain ⟨rfl, rfl, rfl⟩ := h
          obtain ⟨fs, h1, h2⟩ := mm_fat_ok hg
          obtain ⟨g1, g2, g3⟩ := mm_fld_ok hf
          have h9 := k H locs hP hD hS
          rw [List.map_cons, mm_v_val] at h9
          exact va_get (own := mm_cn o) (ref := mm_cn ci) (index := idx) hx hb hts (mm_in_ok ci g3) hown hK hP q (mm_ws_obj h1) (mm_cl_at ci g3) kk g2 (hts _ g1) (fun x hx => by
            have e : (mm_T ci kk).1 = mm_cn ci := mm_decl ci g3 kk g2
            rw [e] at hx; exact hx) (v := mm_fv ad M q kk f) (by rw [mm_fvs_at, h2]; simp) hd h9
    · cases h
  | putfield idx =>
    have hk : len = 3 := by simpa [mm_okh] using hk
    subst hk
    simp only [mm_heap] at h
    split at h
    · rename_i v q r
      unfold mm_putf at h
      cases hf : mm_fld o idx with
      | none => rw [hf] at h; cases h
      | some ck =>
        obtain ⟨ci, kk⟩ := ck
        rw [hf] at h
        dsimp only at h
        obtain ⟨g1, g2, g3⟩ := mm_fld_ok hf
        have hsame : ∀ x, s.fieldFound? (mm_T ci kk).1 (mm_T ci kk).2.1 (mm_T ci kk).2.2.1 = some x → s.fieldFound? (mm_cn ci) (mm_T ci kk).2.1 (mm_T ci kk).2.2.1 = some x := fun x hx => by
          have e : (mm_T ci kk).1 = mm_cn ci := mm_decl ci g3 kk g2
          rw [e] at hx; exact hx
        split at h
        · rename_i x hg
          simp only [Option.map_some, Option.some.injEq, Prod.mk.injEq] at h
          obtain ⟨rfl, rfl, rfl⟩ := h
          obtain ⟨fs, h1, h2⟩ := mm_fat_ok hg
          have hz := mm_sh_at h1 h2
          simp only [mm_fdok, Bool.and_eq_true, decide_eq_true_eq, Bool.not_eq_true'] at hz
          refine va_put (own := mm_cn o) (ref := mm_cn ci) (index := idx) (ty := .int) hx hb hts (mm_in_ok ci g3) (mm_ty ci) (mm_ty_ok ci g3) (mm_nm_ok ci g3) hown hK hP hD hS q (mm_ws_obj h1) (mm_cl_at ci g3) kk g2 (hts _ g1) hsame hz.2 (v := .int x) (by rw [mm_ty_ok ci g3 kk g2, hz.1]) (mm_nar_int x).1 (mm_nar_int x).2 (mm_lt_fvs h2) hd (fun H2 locs2 a1 a2 a3 => ?_)
          rw [mm_ws_fi h1 h2 (by decide)] at a1 a2
          exact k H2 locs2 a1 a2 a3
        · rename_i x hg
          cases hb1 : (x == 0 || x == 1) with
          | false => rw [hb1] at h; cases h
          | true =>
            rw [hb1] at h
            simp only [cond_true, Option.map_some, Option.some.injEq, Prod.mk.injEq] at h
            obtain ⟨rfl, rfl, rfl⟩ := h
            obtain ⟨fs, h1, h2⟩ := mm_fat_ok hg
            have hz := mm_sh_at h1 h2
            simp only [mm_fdok, Bool.and_eq_true, decide_eq_true_eq, Bool.not_eq_true'] at hz
            refine va_put (own := mm_cn o) (ref := mm_cn ci) (index := idx) (ty := .boolean) hx hb hts (mm_in_ok ci g3) (mm_ty ci) (mm_ty_ok ci g3) (mm_nm_ok ci g3) hown hK hP hD hS q (mm_ws_obj h1) (mm_cl_at ci g3) kk g2 (hts _ g1) hsame hz.2 (v := .int x) (by rw [mm_ty_ok ci g3 kk g2, hz.1]) (mm_nar_bool hb1).1 (mm_nar_bool hb1).2 (mm_lt_fvs h2) hd (fun H2 locs2 a1 a2 a3 => ?_)
            rw [mm_ws_fi h1 h2 (by decide)] at a1 a2
            exact k H2 locs2 a1 a2 a3
        · rename_i x hg
          simp only [Option.map_some, Option.some.injEq, Prod.mk.injEq] at h
          obtain ⟨rfl, rfl, rfl⟩ := h
          obtain ⟨fs, h1, h2⟩ := mm_fat_ok hg
          have hz := mm_sh_at h1 h2
          simp only [mm_fdok, Bool.and_eq_true, decide_eq_true_eq, Bool.not_eq_true'] at hz
          refine va_put (own := mm_cn o) (ref := mm_cn ci) (index := idx) (ty := .long) hx hb hts (mm_in_ok ci g3) (mm_ty ci) (mm_ty_ok ci g3) (mm_nm_ok ci g3) hown hK hP hD hS q (mm_ws_obj h1) (mm_cl_at ci g3) kk g2 (hts _ g1) hsame hz.2 (v := .long x) (by rw [mm_ty_ok ci g3 kk g2, hz.1]) (mm_nar_long x).1 (mm_nar_long x).2 (mm_lt_fvs h2) hd (fun H2 locs2 a1 a2 a3 => ?_)
          rw [mm_ws_fl h1 h2] at a1 a2
          exact k H2 locs2 a1 a2 a3
        · cases h
    · cases h
  | iaload =>
    have hk : len = 1 := by simpa [mm_okh] using hk
    subst hk
    simp only [mm_heap] at h
    split at h
    · rename_i i q r
      unfold mm_ild at h
      cases ha : mm_aat 0 q with
      | some n =>
        rw [ha] at h
        dsimp only at h
        cases hi : mm_in i n with
        | false => rw [hi] at h; cases h
        | true =>
          rw [hi] at h
          simp only [cond_true, Option.map_some, Option.some.injEq, Prod.mk.injEq] at h
          obtain ⟨rfl, rfl, rfl⟩ := h
          exact va_iald hx hb hK hP q 0 (mm_ws_ints (mm_aat_ok ha)) rfl (mm_in_ok' hi) hd (k H locs hP hD hS)
      | none =>
        rw [ha] at h
        dsimp only at h
        cases h2 : q == 200 with
        | true =>
          rw [h2] at h
          rw [beq_iff_eq] at h2
          subst h2
          cases hi : mm_in i L with
          | false => rw [hi] at h; cases h
          | true =>
            rw [hi] at h
            simp only [cond_true, Option.map_some, Option.some.injEq, Prod.mk.injEq] at h
            obtain ⟨rfl, rfl, rfl⟩ := h
            exact va_sld hx hb hX hbl hbA hS (mm_in_ok' hi) hd (k H locs hP hD hS)
        | false =>
          rw [h2] at h
          cases h3 : q == 201 with
          | true =>
            rw [h3] at h
            rw [beq_iff_eq] at h3
            subst h3
            cases hi : mm_in i 19 with
            | false => rw [hi] at h; cases h
            | true =>
              rw [hi] at h
              simp only [cond_true, cond_false, Option.map_some, Option.some.injEq, Prod.mk.injEq] at h
              obtain ⟨rfl, rfl, rfl⟩ := h
              exact va_ti hx hb hT hS (mm_in_ok' hi) rfl hd (k H locs hP hD hS)
          | false => rw [h3] at h; cases h
    · cases h
  | laload =>
    have hk : len = 1 := by simpa [mm_okh] using hk
    subst hk
    simp only [mm_heap] at h
    split at h
    · rename_i i q r
      split at h
      · rename_i n ha
        cases hi : mm_in i n with
        | false => rw [hi] at h; cases h
        | true =>
          rw [hi] at h
          simp only [cond_true, Option.some.injEq, Prod.mk.injEq] at h
          obtain ⟨rfl, rfl, rfl⟩ := h
          exact va_lald hx hb hK hP q 1 (mm_ws_longs (mm_aat_ok ha)) rfl (mm_in_ok' hi) hd (k H locs hP hD hS)
      · cases h
    · cases h
  | aaload =>
    have hk : len = 1 := by simpa [mm_okh] using hk
    subst hk
    simp only [mm_heap] at h
    split at h
    · rename_i i q r
      split at h
      · rename_i n ha
        cases hi : mm_in i n with
        | false => rw [hi] at h; cases h
        | true =>
          rw [hi] at h
          simp only [cond_true, Option.some.injEq, Prod.mk.injEq] at h
          obtain ⟨rfl, rfl, rfl⟩ := h
          exact va_aldq hx hb hK hP q 2 (mm_ws_refs (mm_aat_ok ha)) rfl (mm_in_ok' hi) hd (k H locs hP hD hS)
      · cases h
    · cases h
  | iastore =>
    have hk : len = 1 := by simpa [mm_okh] using hk
    subst hk
    simp only [mm_heap] at h
    split at h
    · rename_i x i q r
      split at h
      · rename_i n ha
        cases hi : mm_in i n with
        | false => rw [hi] at h; cases h
        | true =>
          rw [hi] at h
          simp only [cond_true, Option.some.injEq, Prod.mk.injEq] at h
          obtain ⟨rfl, rfl, rfl⟩ := h
          refine va_iast hx hb hK hP hD hS q 0 (mm_ws_ints (mm_aat_ok ha)) rfl (mm_in_ok' hi) hd (fun H2 locs2 a1 a2 a3 => ?_)
          rw [mm_ws_ia (mm_aat_ok ha)] at a1 a2
          exact k H2 locs2 a1 a2 a3
      · cases h
    · cases h
  | lastore =>
    have hk : len = 1 := by simpa [mm_okh] using hk
    subst hk
    simp only [mm_heap] at h
    split at h
    · rename_i x i q r
      split at h
      · rename_i n ha
        cases hi : mm_in i n with
        | false => rw [hi] at h; cases h
        | true =>
          rw [hi] at h
          simp only [cond_true, Option.some.injEq, Prod.mk.injEq] at h
          obtain ⟨rfl, rfl, rfl⟩ := h
          refine va_last hx hb hK hP hD hS q 1 (mm_ws_longs (mm_aat_ok ha)) rfl (mm_in_ok' hi) hd (fun H2 locs2 a1 a2 a3 => ?_)
          rw [mm_ws_la (mm_aat_ok ha)] at a1 a2
          exact k H2 locs2 a1 a2 a3
      · cases h
    · cases h
  | arraylength =>
    have hk : len = 1 := by simpa [mm_okh] using hk
    subst hk
    simp only [mm_heap] at h
    split at h
    · rename_i q r
      unfold mm_len at h
      split at h
      · rename_i kd n hs
        match kd, hs, h with
        | 0, hs, h =>
          simp only [show decide (0 < 3) = true from rfl, cond_true, Option.map_some, Option.some.injEq, Prod.mk.injEq] at h
          obtain ⟨rfl, rfl, rfl⟩ := h
          exact va_alen hx hb hK hP q 0 (mm_ws_ints hs) rfl rfl hd (k H locs hP hD hS)
        | 1, hs, h =>
          simp only [show decide (1 < 3) = true from rfl, cond_true, Option.map_some, Option.some.injEq, Prod.mk.injEq] at h
          obtain ⟨rfl, rfl, rfl⟩ := h
          exact va_alen hx hb hK hP q 1 (mm_ws_longs hs) rfl rfl hd (k H locs hP hD hS)
        | 2, hs, h =>
          simp only [show decide (2 < 3) = true from rfl, cond_true, Option.map_some, Option.some.injEq, Prod.mk.injEq] at h
          obtain ⟨rfl, rfl, rfl⟩ := h
          exact va_alen hx hb hK hP q 2 (mm_ws_refs hs) rfl rfl hd (k H locs hP hD hS)
        | kd + 3, hs, h =>
          rw [show decide (kd + 3 < 3) = false from decide_eq_false (by omega)] at h
          cases h
      · cases h
      · cases h2 : q == 200 with
        | true =>
          rw [h2] at h
          rw [beq_iff_eq] at h2
          subst h2
          simp only [cond_true, Option.map_some, Option.some.injEq, Prod.mk.injEq] at h
          obtain ⟨rfl, rfl, rfl⟩ := h
          exact va_slen hx hb hX hbl hbA hS hd (k H locs hP hD hS)
        | false =>
          rw [h2] at h
          cases h3 : q == 201 with
          | true =>
            rw [h3] at h
            rw [beq_iff_eq] at h3
            subst h3
            simp only [cond_true, cond_false, Option.map_some, Option.some.injEq, Prod.mk.injEq] at h
            obtain ⟨rfl, rfl, rfl⟩ := h
            exact va_tlen hx hb hT hS (by decide +kernel) hd (k H locs hP hD hS)
          | false => rw [h3] at h; cases h
    · cases h
  | ldc idx =>
    have hk : len = 2 := by simpa [mm_okh] using hk
    subst hk
    simp only [mm_heap] at h
    cases hc : mm_cst o idx with
    | none => rw [hc] at h; cases h
    | some v =>
      rw [hc] at h
      simp only [Option.map_some, Option.some.injEq, Prod.mk.injEq] at h
      obtain ⟨rfl, rfl, rfl⟩ := h
      exact lv_ldc hx hb hown (hts _ (mm_cst_ok hc)) hd (k H locs hP hD hS)
  | ldc_w idx =>
    have hk : len = 3 := by simpa [mm_okh] using hk
    subst hk
    simp only [mm_heap] at h
    cases hc : mm_cst o idx with
    | none => rw [hc] at h; cases h
    | some v =>
      rw [hc] at h
      simp only [Option.map_some, Option.some.injEq, Prod.mk.injEq] at h
      obtain ⟨rfl, rfl, rfl⟩ := h
      exact lv_ldcw hx hb hown (hts _ (mm_cst_ok hc)) hd (k H locs hP hD hS)
  | ldc2_w idx =>
    have hk : len = 3 := by simpa [mm_okh] using hk
    subst hk
    simp only [mm_heap] at h
    cases hc : mm_csl o idx with
    | none => rw [hc] at h; cases h
    | some v =>
      rw [hc] at h
      simp only [Option.map_some, Option.some.injEq, Prod.mk.injEq] at h
      obtain ⟨rfl, rfl, rfl⟩ := h
      exact lv_ldc2 hx hb hown (hts _ (mm_csl_ok hc)) hd (k H locs hP hD hS)
  | getstatic idx =>
    have hk : len = 3 := by simpa [mm_okh] using hk
    subst hk
    simp only [mm_heap] at h
    cases hc : (o == 6 && idx == 23) with
    | false => rw [hc] at h; cases h
    | true =>
      rw [hc] at h
      simp only [cond_true, Option.some.injEq, Prod.mk.injEq] at h
      obtain ⟨rfl, rfl, rfl⟩ := h
      simp only [Bool.and_eq_true, beq_iff_eq] at hc
      obtain ⟨rfl, rfl⟩ := hc
      exact va_gets (own := mm_cn 6) (ref := "PlainPacks$Blocks") hx hb hZ hS hown (hts _ mm_row_link) (fun _ q => q) hd (k H locs hP hD hS)
  | _ => cases h
end MH
