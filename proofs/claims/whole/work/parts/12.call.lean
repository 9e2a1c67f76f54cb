/-! A CALL, by the machine: into the callee, out of it again, returned or thrown -/
/-- what a method's run rests on, at its start s -/
def mm_Cx (p : Program) (R : Room) (s : State) (m : MethodId) (args : Array Value) (meth : Method) (c : Code) (D : va_G) (cs : mm_C) (A : Nat → Prop) (ad : Nat → Nat) (L : Nat) (xs : Nat → Int32) (k d : Nat) : Prop :=
  (p.tables.exec = Jvm.exec ∧ c.code = mm_b k ∧ c.maxLocals = mm_ml k ∧ meth.sig.returnType = mm_rt k ∧ meth.locks = false ∧ s.vm.findClass (mm_cn (mm_own k)) = some m.cls ∧ c.exceptionTable.toList.map (fun h => (h.startPc, h.endPc, h.handlerPc, h.catchType)) = mm_hs k) ∧
  ((∀ w ∈ mm_tbl, w.before args s = true) ∧ va_K D mm_cl (mm_tys cs) s ∧ mm_Out A ad L xs s ∧ (∀ (q : Nat) (cell : Cell), A q → s.heap[q]? = some cell → cell.vm.isStatics = false) ∧ mm_St A s) ∧ d ≤ R.frames ∧ 40 * d ≤ R.locals
/-- how a run has ended -/
def mm_Oc (ad : Nat → Nat) (s : State) (r : mm_R) (o : Outcome) (t : State) : Prop := match r with
  | .inl v => o = .returned (v.map (mm_v ad))
  | .inr x => ∃ (a : Nat) (cell : Cell), o = .threw a ∧ t.heap[a]? = some cell ∧ cell.vm = .none ∧ s.vm.findClass (mm_en x) = some cell.cls ∧ ∃ kX : Class, s.vm.classes[cell.cls]? = some kX
def mm_Z (D : va_G) (cs : mm_C) (A : Nat → Prop) (ad : Nat → Nat) (below : List Frame) (s : State) (r : mm_R) (M : mm_M) (kc ks : Nat) : State → Prop := fun t =>
  ∃ (o : Outcome) (Lw : List Loc), t.status = .running ∧ Ended t below o ∧ mm_Oc ad s r o t ∧ s.WarmedH t.vm ∧ s.sameButNew ({ t with vm := s.vm } : State) Lw kc ks ∧ (∀ q ∈ Lw, A q.base) ∧ va_P D mm_cl (mm_ws cs ad M) t.heap ∧ va_F A s t
theorem mm_codeW_spec {s : State} {args : Array Value} {k : Nat} (h : (mm_codeW k).before args s = true) : ∃ (mk : MethodId) (meth : Method) (c : Code), s.methodNamed? (mm_y k) = some mk ∧ s.vm.method? mk = some meth ∧ meth.code = some c ∧ c.code = mm_b k ∧ c.maxLocals = mm_ml k ∧ c.exceptionTable.toList.map (fun h => (h.startPc, h.endPc, h.handlerPc, h.catchType)) = mm_hs k ∧ meth.sig.returnType = mm_rt k ∧ meth.locks = false ∧ parseMethodDescriptor (mm_y k).desc = some meth.sig := by
  unfold mm_codeW at h
  split at h
  · rename_i hh
    obtain ⟨mk, hn⟩ := Cond.code_named h
    obtain ⟨meth, c, h1, h2, h3, h4, h5, h6, h7, h8⟩ := Cond.code_spec hn h
    refine ⟨mk, meth, c, hn, h1, h2, h3, h4, ?_, h5, h6, h8⟩
    rw [hh]
    have : c.exceptionTable = #[] := by simpa using h7
    rw [this]
    rfl
  · rename_i hd tl hh
    obtain ⟨mk, meth, c, h0, h1, h2, h3, h4, h5, h6, h7, h8⟩ := Cond.codeWith_spec h
    exact ⟨mk, meth, c, h0, h1, h2, h3, h4, by rw [h5, hh], h6, h7, h8⟩
theorem mm_m_ok {k : Nat} (h : k < 291) : mm_own k < 16 ∧ (mm_y k).cls = mm_cn (mm_own k) ∧ (parseMethodDescriptor (mm_y k).desc).map (fun d => d.parameters.length) = some (mm_np k) ∧ mm_ml k ≤ 20 ∧ plainName (mm_y k).cls = true ∧ (mm_y k).cls ≠ "java/lang/invoke/MethodHandle" ∧ (mm_y k).cls ≠ "java/lang/invoke/VarHandle" := by
  have hl : mm_mt.length = 291 := by decide +kernel
  have h1 : mm_nth mm_mt k = some (mm_m k) := by
    unfold mm_m
    rw [mm_nth_eq, List.getElem?_eq_getElem (by omega)]
    rfl
  rw [mm_nth_eq] at h1
  have h2 := List.all_eq_true.mp mm_mt_ok _ (List.mem_of_getElem? h1)
  simp only [mm_mok, Bool.and_eq_true, decide_eq_true_eq] at h2
  obtain ⟨⟨⟨⟨⟨⟨a1, a2⟩, a3⟩, a4⟩, a5⟩, a6⟩, a7⟩ := h2
  exact ⟨a1, a2, a3, a4, a5, a6, a7⟩
/-- the memory's cells are no statics' cells -/
theorem mm_ns {D : va_G} {cs : mm_C} {ad : Nat → Nat} {M : mm_M} {H : Heap} (hP : va_P D mm_cl (mm_ws cs ad M) H) {p : Nat} (hp : p < mm_nP) {cell : Cell} (hc : H[ad p]? = some cell) : cell.vm.isStatics = false := by
  have hl : mm_sh.length = mm_nP := by decide +kernel
  have h1 : ∃ sh, mm_nth mm_sh p = some sh := by
    rw [mm_nth_eq, List.getElem?_eq_getElem (by omega)]
    exact ⟨_, rfl⟩
  obtain ⟨sh, hsh⟩ := h1
  match sh, hsh with
  | .inl (ci, fs), hsh =>
    obtain ⟨r, -, cell2, g1, g2, g3, -⟩ := hP p _ (mm_ws_obj hsh)
    cases hc.symm.trans g1
    rw [g3]
    rfl
  | .inr (0, n), hsh =>
    have g1 : H[ad p]? = some _ := hP p _ (mm_ws_ints hsh)
    cases hc.symm.trans g1
    rfl
  | .inr (1, n), hsh =>
    have g1 : H[ad p]? = some _ := hP p _ (mm_ws_longs hsh)
    cases hc.symm.trans g1
    rfl
  | .inr (k + 2, n), hsh =>
    have g1 : H[ad p]? = some _ := hP p (ad p, mm_el cs ad M p (.inr (k + 2, n))) (by rw [mm_ws_at, hsh]; rfl)
    cases hc.symm.trans g1
    rfl
section MC
variable {p : Program} {l : Launch} {e : Env} {R : Room} {s : State} {m : MethodId} {args : Array Value} {below : List Frame} {meth : Method} {c : Code} {T : State} {H : Heap} {locs : List Loc} {cells slots : Nat}
variable {D : va_G} {cs : mm_C} {A : Nat → Prop} {ad : Nat → Nat} {L : Nat} {xs : Nat → Int32} {k d : Nat}
/-- the invoking instruction: linked, the callee about to be entered -/
theorem mm_inv (hC : mm_Cx p R s m args meth c D cs A ad L xs k d) (X : Stand p l e R s m args below meth c T locs cells slots) (hT : T.heap = H) {M : mm_M} (hP : va_P D mm_cl (mm_ws cs ad M) H) {ins : Instr} {st : List Value} {k2 : Nat} {as r : List Value} (hcal : mm_cal k ins st = some (k2, as, r)) {pc : Nat} (hd : decode (mm_b k) pc = .ok (ins, 3)) {ls : Array Slot} :
    k2 < 291 ∧ k2 ≠ 12 ∧ (mm_arg as).length ≤ mm_ml k2 ∧ mm_cats r ≤ 8 ∧ ∃ (vm₁ : Vm) (mk : MethodId) (methk : Method) (ck : Code), Stand p l e R s m args below meth c (T.setVm vm₁) locs cells slots ∧ s.methodNamed? (mm_y k2) = some mk ∧ s.vm.method? mk = some methk ∧ methk.code = some ck ∧ ck.code = mm_b k2 ∧ ck.maxLocals = mm_ml k2 ∧ ck.exceptionTable.toList.map (fun h => (h.startPc, h.endPc, h.handlerPc, h.catchType)) = mm_hs k2 ∧ methk.sig.returnType = mm_rt k2 ∧ methk.locks = false ∧
      ∀ target, (∀ acts, Steps p.tables e below (doInvoke e ((T.setVm vm₁).setTop (F0 m pc ls (r.map (mm_v ad)))) acts mk (as.map (mm_v ad)).toArray).1 target) → Steps p.tables e below (T.setTop (F0 m pc ls (st.map (mm_v ad)))) target := by
  obtain ⟨⟨hx, hb, hml, hrt, hlk, hown, hex⟩, ⟨hts, hK, hO, hA, hSt⟩, hfr, hlo⟩ := hC
  unfold mm_cal at hcal
  split at hcal
  · rename_i idx
    cases hq : mm_call (mm_own k) idx with
    | none => rw [hq] at hcal; cases hcal
    | some kq =>
      obtain ⟨k3, q⟩ := kq
      rw [hq] at hcal
      dsimp only at hcal
      obtain ⟨w1, w2, w3, w4⟩ := mm_call_ok hq
      cases hq2 : q == 2 with
      | true => rw [hq2] at hcal; cases hcal
      | false =>
        rw [hq2] at hcal w4
        simp only [cond_false] at hcal
        split at hcal
        · rename_i as3 r3 hpop
          rw [cond_eq_if] at hcal
          split at hcal
          · rename_i hc2
            cases hcal
            simp only [Bool.and_eq_true, decide_eq_true_eq] at hc2
            obtain ⟨ys, y1, y2, y3⟩ := mm_pop_ok _ _ _ _ _ hpop
            have hst : st = as.reverse ++ r := by rw [y2, y3]; simp
            have hlen : as.length = mm_np k2 := by rw [y3]; simp [y1]
            obtain ⟨o1, o2, o3, o4, o5, o6, o7⟩ := mm_m_ok w2
            have hcw := (mm_wcA k2 w2).resolve_left w3
            obtain ⟨mk, methk, ck, c0, c1, c2, c3, c4, c5, c6, c7, c8⟩ := mm_codeW_spec (hts _ hcw)
            have hsw := (mm_wsA k2 w2).resolve_left w3
            rw [show mm_sta k2 = true from w4] at hsw
            have hstat : methk.isStatic = true := Cond.static_spec c0 c1 (hts _ hsw)
            obtain ⟨kP, hkP, -⟩ := className_of_methodNamed c0
            have hini : kP.init = .initialized := Cond.initialized_spec (findClass_of_methodNamed c0) hkP (by have := hts _ (mm_ini _ o1); rw [o2]; exact this)
            have hl2 : (as.map (mm_v ad)).length = methk.sig.parameters.length := by
              rw [List.length_map, hlen]
              rw [c8] at o3
              exact (Option.some.inj o3).symm
            refine ⟨w2, w3, hc2.1, hc2.2, ?_⟩
            have hstk : (F0 m pc ls (st.map (mm_v ad))).stack = (as.map (mm_v ad)).reverse ++ r.map (mm_v ad) := by
              show st.map (mm_v ad) = _
              rw [hst, List.map_append, List.map_reverse]
            cases hn : q == 1 with
            | true =>
              rw [hn] at w1
              obtain ⟨vm₁, X₁, st₁⟩ := X.invokestaticNest hx hown (hts _ w1) c0 c1 hstat hkP hini ⟨o6, o7⟩ (g := F0 m pc ls (st.map (mm_v ad))) rfl (argsL := as.map (mm_v ad)) (rest := r.map (mm_v ad)) hl2 hstk (by rw [hb]; exact hd)
              exact ⟨vm₁, mk, methk, ck, X₁, c0, c1, c2, c3, c4, c5, c6, c7, st₁⟩
            | false =>
              rw [hn] at w1
              obtain ⟨vm₁, X₁, st₁⟩ := X.invokestatic hx hown (hts _ w1) c0 c1 hstat hkP hini ⟨o6, o7⟩ (g := F0 m pc ls (st.map (mm_v ad))) rfl (argsL := as.map (mm_v ad)) (rest := r.map (mm_v ad)) hl2 hstk (by rw [hb]; exact hd)
              exact ⟨vm₁, mk, methk, ck, X₁, c0, c1, c2, c3, c4, c5, c6, c7, st₁⟩
          · cases hcal
        · cases hcal
  · rename_i idx
    cases hq : mm_call (mm_own k) idx with
    | none => rw [hq] at hcal; cases hcal
    | some kq =>
      obtain ⟨k3, q⟩ := kq
      rw [hq] at hcal
      dsimp only at hcal
      obtain ⟨w1, w2, w3, w4⟩ := mm_call_ok hq
      cases hq2 : q == 2 with
      | false => rw [hq2] at hcal; cases hcal
      | true =>
        rw [hq2] at hcal w4
        simp only [cond_true] at hcal
        rw [beq_iff_eq] at hq2
        subst hq2
        split at hcal
        · rename_i p3 as3 r3 hpop
          rw [cond_eq_if] at hcal
          split at hcal
          · rename_i hc2
            cases hcal
            simp only [Bool.and_eq_true, decide_eq_true_eq] at hc2
            obtain ⟨ys, y1, y2, y3⟩ := mm_pop_ok _ _ _ _ _ hpop
            have hst : st = (Value.ref p3 :: as3).reverse ++ r := by rw [y2, y3]; simp
            have hlen : as3.length = mm_np k2 := by
              have := congrArg List.length y3
              simp [y1] at this
              omega
            obtain ⟨o1, o2, o3, o4, o5, o6, o7⟩ := mm_m_ok w2
            have hcw := (mm_wcA k2 w2).resolve_left w3
            obtain ⟨mk, methk, ck, c0, c1, c2, c3, c4, c5, c6, c7, c8⟩ := mm_codeW_spec (hts _ hcw)
            have hsw := (mm_wsA k2 w2).resolve_left w3
            rw [show mm_sta k2 = false from w4] at hsw
            obtain ⟨mk', methM, n0, n1, hstM, habM⟩ := Cond.instanceMethod_spec (hts _ hsw)
            cases n0.symm.trans c0
            cases n1.symm.trans c1
            have hse := (mm_weA k2 w2).resolve_left (by rw [show mm_sta k2 = false from w4]; decide)
            obtain ⟨cc2, rr2, mm2, q1, q2, q3, q4, kP, hkP, hkPi⟩ := Cond.selects_spec (hts _ hse)
            -- the receiver
            have hcl := hc2.1.1
            unfold mm_cls at hcl
            split at hcl
            · rename_i ci fs hsh
              cases hcl
              have hci : mm_own k2 < 13 := by
                have h9 := List.all_eq_true.mp mm_sh_ok _ (List.mem_of_getElem? (by rw [← mm_nth_eq]; exact hsh))
                simp only [mm_shok, Bool.and_eq_true, decide_eq_true_eq] at h9
                exact h9.1
              obtain ⟨cellB, hcB, hoB, hclB⟩ := va_recv hK hP (mm_cl_at _ hci) (mm_ws_obj hsh)
              cases hclB.symm.trans q1
              cases (State.methodFound?_of_named c0 ⟨o6, o7⟩).symm.trans q2
              cases c0.symm.trans q3
              have hselP : selectMethod e.platform s.vm cellB.cls mk = .method mk := by rw [Launch.admits_selectMethod X.admits]; exact q4
              have hl2 : (as3.map (mm_v ad)).length = methk.sig.parameters.length := by
                rw [List.length_map, hlen]
                rw [c8] at o3
                exact (Option.some.inj o3).symm
              have hstk : (F0 m pc ls (st.map (mm_v ad))).stack = (as3.map (mm_v ad)).reverse ++ .ref (ad p3) :: r.map (mm_v ad) := by
                show st.map (mm_v ad) = _
                rw [hst]
                simp [mm_v]
              obtain ⟨vm₁, X₁, st₁⟩ := X.invokevirtual hx hown (hts _ w1) c0 c1 hstM hkP hkPi ⟨o6, o7⟩ (a := ad p3) (cell := cellB) (by rw [hT]; exact hcB) (fun z h => by rw [h] at hoB; cases hoB) hselP c1 habM hkP hkPi (g := F0 m pc ls (st.map (mm_v ad))) rfl (argsL := as3.map (mm_v ad)) (rest := r.map (mm_v ad)) hl2 hstk (by rw [hb]; exact hd)
              exact ⟨w2, w3, hc2.1.2, hc2.2, vm₁, mk, methk, ck, X₁, c0, c1, c2, c3, c4, c5, c6, c7, st₁⟩
            · cases hcl
          · cases hcal
        · cases hcal
  · cases hcal
end MC
