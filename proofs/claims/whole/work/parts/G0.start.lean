/-! THE LAW'S START: what the tables and the premises say there -/
theorem mj_eqt {args : Array Value} {s : State} {tm : Term} {z : Int32} (h : (Cond.eq tm (.int z)).before args s = true) : tm.eval args s none [] s = some (.int z) := by
  cases hv : tm.eval args s none [] s with
  | none => simp [Cond.before, Cond.holds, Cond.value, hv] at h
  | some w =>
    have hz : (Term.int z).eval args s none [] s = some (.int z) := rfl
    simp only [Cond.before, Cond.holds, Cond.value, hv, hz] at h
    cases w <;> simp_all
theorem mj_Sz {args : Array Value} {s : State} {A : Nat → Prop} {n d : String} (hl : (Cond.laysStatic "java/lang/Throwable" n d).before args s = true) (h : (Cond.isRef (.static "java/lang/Throwable" n d)).before args s = true) (hA : ∀ a : Nat, a < s.heap.size → ¬ A a) : mm_Sz n d A s := by
  obtain ⟨c, k, i, f, a, cell, hc, hi, hst, ha, hcell, hs, hcls, hlt, hty⟩ := Cond.laysStatic_spec hl
  obtain ⟨v, hv, hr⟩ := Cond.isRef_spec h
  obtain ⟨hst', a', cell', ha', hcell', -, hslot⟩ := Term.static_spec hi hv
  cases ha.symm.trans ha'
  cases hcell.symm.trans hcell'
  refine ⟨c, k, i, f, a, cell, hc, hi, hst, ha, hcell, hs, hcls, hlt, hty, ?_, hA a (Array.getElem?_eq_some_iff.mp hcell).1⟩
  cases v with
  | null => exact .inl hslot
  | ref t => exact .inr ⟨t, hslot⟩
  | int _ => simp [Value.isRef] at hr
  | long _ => simp [Value.isRef] at hr
  | float _ => simp [Value.isRef] at hr
  | double _ => simp [Value.isRef] at hr
  | retAddr _ => simp [Value.isRef] at hr
def mj_R : Term := .static "PlainPacks$Blocks" "ROW_ORDER" "[I"
theorem mj_f0 : Cond.arrayOf mj_R .int ∈ flatC (Jvm.Cond.and given_1 narrow_1) := by decide +kernel
theorem mj_f1 : Cond.eq (.length mj_R) (.int 19) ∈ flatC (Jvm.Cond.and given_1 narrow_1) := by decide +kernel
theorem mj_f2 : Cond.isRef (.static "java/lang/Throwable" "UNASSIGNED_STACK" "[Ljava/lang/StackTraceElement;") ∈ flatC (Jvm.Cond.and given_1 narrow_1) := by decide +kernel
theorem mj_f3 : Cond.isRef (.static "java/lang/Throwable" "SUPPRESSED_SENTINEL" "Ljava/util/List;") ∈ flatC (Jvm.Cond.and given_1 narrow_1) := by decide +kernel
theorem mj_e0 : Cond.eq (.elem mj_R (.int 0)) (.int 16) ∈ flatC (Jvm.Cond.and given_1 narrow_1) := by decide +kernel
theorem mj_e1 : Cond.eq (.elem mj_R (.int 1)) (.int 17) ∈ flatC (Jvm.Cond.and given_1 narrow_1) := by decide +kernel
theorem mj_e2 : Cond.eq (.elem mj_R (.int 2)) (.int 18) ∈ flatC (Jvm.Cond.and given_1 narrow_1) := by decide +kernel
theorem mj_e3 : Cond.eq (.elem mj_R (.int 3)) (.int 0) ∈ flatC (Jvm.Cond.and given_1 narrow_1) := by decide +kernel
theorem mj_e4 : Cond.eq (.elem mj_R (.int 4)) (.int 8) ∈ flatC (Jvm.Cond.and given_1 narrow_1) := by decide +kernel
theorem mj_e5 : Cond.eq (.elem mj_R (.int 5)) (.int 7) ∈ flatC (Jvm.Cond.and given_1 narrow_1) := by decide +kernel
theorem mj_e6 : Cond.eq (.elem mj_R (.int 6)) (.int 9) ∈ flatC (Jvm.Cond.and given_1 narrow_1) := by decide +kernel
theorem mj_e7 : Cond.eq (.elem mj_R (.int 7)) (.int 6) ∈ flatC (Jvm.Cond.and given_1 narrow_1) := by decide +kernel
theorem mj_e8 : Cond.eq (.elem mj_R (.int 8)) (.int 10) ∈ flatC (Jvm.Cond.and given_1 narrow_1) := by decide +kernel
theorem mj_e9 : Cond.eq (.elem mj_R (.int 9)) (.int 5) ∈ flatC (Jvm.Cond.and given_1 narrow_1) := by decide +kernel
theorem mj_e10 : Cond.eq (.elem mj_R (.int 10)) (.int 11) ∈ flatC (Jvm.Cond.and given_1 narrow_1) := by decide +kernel
theorem mj_e11 : Cond.eq (.elem mj_R (.int 11)) (.int 4) ∈ flatC (Jvm.Cond.and given_1 narrow_1) := by decide +kernel
theorem mj_e12 : Cond.eq (.elem mj_R (.int 12)) (.int 12) ∈ flatC (Jvm.Cond.and given_1 narrow_1) := by decide +kernel
theorem mj_e13 : Cond.eq (.elem mj_R (.int 13)) (.int 3) ∈ flatC (Jvm.Cond.and given_1 narrow_1) := by decide +kernel
theorem mj_e14 : Cond.eq (.elem mj_R (.int 14)) (.int 13) ∈ flatC (Jvm.Cond.and given_1 narrow_1) := by decide +kernel
theorem mj_e15 : Cond.eq (.elem mj_R (.int 15)) (.int 2) ∈ flatC (Jvm.Cond.and given_1 narrow_1) := by decide +kernel
theorem mj_e16 : Cond.eq (.elem mj_R (.int 16)) (.int 14) ∈ flatC (Jvm.Cond.and given_1 narrow_1) := by decide +kernel
theorem mj_e17 : Cond.eq (.elem mj_R (.int 17)) (.int 1) ∈ flatC (Jvm.Cond.and given_1 narrow_1) := by decide +kernel
theorem mj_e18 : Cond.eq (.elem mj_R (.int 18)) (.int 15) ∈ flatC (Jvm.Cond.and given_1 narrow_1) := by decide +kernel
theorem mj_fe : ∀ j, j < 19 → Cond.eq (.elem mj_R (.int (Int32.ofNat j))) (.int (mm_row j)) ∈ flatC (Jvm.Cond.and given_1 narrow_1) := by
  intro j hj
  match j, hj with
  | 0, _ => exact mj_e0
  | 1, _ => exact mj_e1
  | 2, _ => exact mj_e2
  | 3, _ => exact mj_e3
  | 4, _ => exact mj_e4
  | 5, _ => exact mj_e5
  | 6, _ => exact mj_e6
  | 7, _ => exact mj_e7
  | 8, _ => exact mj_e8
  | 9, _ => exact mj_e9
  | 10, _ => exact mj_e10
  | 11, _ => exact mj_e11
  | 12, _ => exact mj_e12
  | 13, _ => exact mj_e13
  | 14, _ => exact mj_e14
  | 15, _ => exact mj_e15
  | 16, _ => exact mj_e16
  | 17, _ => exact mj_e17
  | 18, _ => exact mj_e18
  | n + 19, h => exact absurd h (by omega)
theorem mj_tw {w : Cond} (h : w ∈ tables_1) : w ∈ lw_tbl := List.mem_append_right _ h
theorem mj_t2 {w : Cond} {j : Nat} (h : tables_1_2[j]? = some w) : w ∈ lw_tbl := mj_tw (by unfold tables_1; have h := List.mem_of_getElem? h; exact List.mem_append_right _ (List.mem_append_left _ h))
theorem mj_t3 {w : Cond} {j : Nat} (h : tables_1_3[j]? = some w) : w ∈ lw_tbl := mj_tw (by unfold tables_1; have h := List.mem_of_getElem? h; exact List.mem_append_right _ (List.mem_append_right _ (List.mem_append_left _ h)))
theorem mj_t4 {w : Cond} {j : Nat} (h : tables_1_4[j]? = some w) : w ∈ lw_tbl := mj_tw (by unfold tables_1; have h := List.mem_of_getElem? h; exact List.mem_append_right _ (List.mem_append_right _ (List.mem_append_right _ (List.mem_append_left _ h))))
theorem mj_faceL : ∀ w ∈ mm_face, w ∈ lw_tbl := by
  intro w hw
  simp only [mm_face, List.mem_cons, List.not_mem_nil, or_false] at hw
  rcases hw with rfl | rfl | rfl | rfl | rfl | rfl | rfl
  · exact mj_t4 (j := 13) rfl
  · exact mj_t3 (j := 169) rfl
  · exact mj_t3 (j := 193) rfl
  · exact mj_t3 (j := 88) rfl
  · exact mj_t3 (j := 90) rfl
  · exact mj_t3 (j := 92) rfl
  · exact mj_t3 (j := 94) rfl
theorem mj_faceT : ∀ w ∈ mm_face, w.onTables = true := by
  intro w hw
  simp only [mm_face, List.mem_cons, List.not_mem_nil, or_false] at hw
  rcases hw with rfl | rfl | rfl | rfl | rfl | rfl | rfl <;> rfl
section G0
variable {b L : Nat} {xs : Nat → Int32} {s : State}
theorem mj_row0 (hts : ∀ w ∈ lw_tbl, w.before #[Value.ref b] s = true) (hgv : (Jvm.Cond.and given_1 narrow_1).before #[Value.ref b] s = true) {A : Nat → Prop} (hA : ∀ a : Nat, a < s.heap.size → ¬ A a) : ∃ r : Nat, va_T .int r 19 (fun j => .int (mm_row j)) A s s.heap ∧ va_Z "PlainPacks$Blocks" "ROW_ORDER" "[I" (.ref r) A s s.heap := by
  have hs := flat_of_before _ hgv
  obtain ⟨r, h1, h2⟩ := va_Tof (tm := mj_R) (ty := .int) (N := 19) (f := fun j => .int (mm_row j)) (A := A) (by decide) (hs _ mj_f0) (mj_eqt (hs _ mj_f1)) (fun j hj => mj_eqt (hs _ (mj_fe j hj))) hA
  exact ⟨r, h2, va_Zof (hts _ (mj_t2 (j := 18) rfl)) (hts _ (List.mem_filter.mp (mj_ini 6 (by decide))).1) h1 hA⟩
theorem mj_st0 (hts : ∀ w ∈ lw_tbl, w.before #[Value.ref b] s = true) (hgv : (Jvm.Cond.and given_1 narrow_1).before #[Value.ref b] s = true) {A : Nat → Prop} (hA : ∀ a : Nat, a < s.heap.size → ¬ A a) : mm_St A s := by
  have hs := flat_of_before _ hgv
  exact ⟨fun w hw => va_Nw.of (mj_faceT w hw) (hts _ (mj_faceL w hw)), mj_Sz (hts _ (mj_t3 (j := 113) rfl)) (hs _ mj_f2) hA, mj_Sz (hts _ (mj_t3 (j := 115) rfl)) (hs _ mj_f3) hA⟩
theorem mj_K0 (hts : ∀ w ∈ lw_tbl, w.before #[Value.ref b] s = true) : ∃ (D : va_G) (cs : mm_C), va_K D mm_cl (mm_tys cs) s := by
  have hg : ∀ w ∈ mj_tb, w.before #[Value.ref b] s = true := fun w hw => hts w (List.mem_filter.mp hw).1
  have key : ∀ c : Nat, ∃ y : ClassId × (Nat → Nat), c < 13 → u_Kn s (mm_cn c) (mm_T c) (mm_N c) y.1 y.2 := by
    intro c
    by_cases hc : c < 13
    · obtain ⟨cC, iS, h⟩ := u_known (C := mm_cn c) (T := mm_T c) (N := mm_N c) (n := mm_N c) hg (mj_uin hc) (hg _ (mj_ins c hc))
      exact ⟨(cC, iS), fun _ => h⟩
    · exact ⟨(0, fun _ => 0), fun z => absurd z hc⟩
  obtain ⟨f, hf⟩ := Classical.skolem.mp key
  obtain ⟨cI, kI, aI, i1, i2, i3⟩ := Cond.arrayClass_spec (hg _ mj_aI)
  obtain ⟨cJ, kJ, aJ, j1, j2, j3⟩ := Cond.arrayClass_spec (hg _ mj_aJ)
  obtain ⟨aT, cT, kT, t1, t2, t3, t4, t5⟩ := Cond.arrayOver_spec (hts _ (mj_t2 (j := 140) rfl))
  refine ⟨(fun c => (f c).1, fun c => (f c).2), (cI, cJ, cT), fun c q hq => ?_, fun k q hk => ?_⟩
  · have hl : c < 13 := (List.getElem?_eq_some_iff.mp hq).1
    rw [mm_cl_at c hl] at hq
    cases hq
    exact hf c hl
  · match k, hk with
    | 0, hk => cases hk; exact ⟨fun n z => ⟨fun k h => (by cases h), kI, i2, aI, i3⟩, i1⟩
    | 1, hk => cases hk; exact ⟨fun n z => ⟨fun k h => (by cases h), kJ, j2, aJ, j3⟩, j1⟩
    | 2, hk => cases hk; exact ⟨fun n z => ⟨fun k h => (by cases h), kT, t3, aT, t4⟩, kT, aT, t3, t4, t1, t5⟩
    | k + 3, hk => simp [mm_tys] at hk
theorem mj_Ex0 (hts : ∀ w ∈ lw_tbl, w.before #[Value.ref b] s = true) (hgv : (Jvm.Cond.and given_1 narrow_1).before #[Value.ref b] s = true) {A : Nat → Prop} (hA : ∀ a : Nat, a < s.heap.size → ¬ A a) : ∃ r, mj_Ex r A s := by
  obtain ⟨r, h1, h2⟩ := mj_row0 hts hgv hA
  refine ⟨r, h1, h2, va_AO.of (hts _ (mj_t2 (j := 140) rfl)), fun w hw => ?_⟩
  simp only [mj_nest, List.mem_cons, List.not_mem_nil, or_false] at hw
  rcases hw with rfl | rfl | rfl | rfl
  · exact va_Nw.of rfl (hts _ (mj_tw (by unfold tables_1; exact List.mem_append_left _ (List.mem_of_getElem? (i := 34) rfl))))
  · exact va_Nw.of rfl (hts _ (mj_tw (by unfold tables_1; exact List.mem_append_left _ (List.mem_of_getElem? (i := 82) rfl))))
  · exact va_Nw.of rfl (hts _ (mj_tw (by unfold tables_1; exact List.mem_append_left _ (List.mem_of_getElem? (i := 129) rfl))))
  · exact va_Nw.of rfl (hts _ (mj_tw (by unfold tables_1; exact List.mem_append_left _ (List.mem_of_getElem? (i := 161) rfl))))
end G0
