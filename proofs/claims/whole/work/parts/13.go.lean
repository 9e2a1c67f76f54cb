/-! INTO THE CALLEE AND OUT AGAIN -/
section MG
variable {p : Program} {l : Launch} {e : Env} {R : Room} {s : State} {m : MethodId} {args : Array Value} {below : List Frame} {meth : Method} {c : Code} {T : State} {H : Heap} {locs : List Loc} {cells slots : Nat}
variable {D : va_G} {cs : mm_C} {A : Nat → Prop} {ad : Nat → Nat} {L : Nat} {xs : Nat → Int32} {k d2 : Nat}
set_option maxHeartbeats 1000000 in
theorem mm_go (hAw : ∀ q, A q → ∃ p, p < mm_nP ∧ q = ad p) (hC : mm_Cx p R s m args meth c D cs A ad L xs k (d2 + 1)) (X : Stand p l e R s m args below meth c T locs cells slots) (hT : T.heap = H) {M : mm_M} (hP : va_P D mm_cl (mm_ws cs ad M) H) (hS : va_S A s.heap H locs)
    {pc : Nat} {ls : Array Slot} {r : List Value} (hls : ls.size = mm_ml k) (hcat : mm_cats r ≤ 8) {ins : Instr} (hd : decode (mm_b k) pc = .ok (ins, 3)) {k2 : Nat} (hk2 : k2 < 291) {mk : MethodId} {methk : Method} {ck : Code}
    (c0 : s.methodNamed? (mm_y k2) = some mk) (c1 : s.vm.method? mk = some methk) (c2 : methk.code = some ck) (c3 : ck.code = mm_b k2) (c4 : ck.maxLocals = mm_ml k2) (c5 : ck.exceptionTable.toList.map (fun h => (h.startPc, h.endPc, h.handlerPc, h.catchType)) = mm_hs k2) (c6 : methk.sig.returnType = mm_rt k2) (c7 : methk.locks = false)
    {as : List Value} (has : (mm_arg as).length ≤ mm_ml k2) {r2 : mm_R} {M2 : mm_M} {dl : Nat} (hdl : cells + dl ≤ R.cells) (hdl2 : slots + 6 * dl ≤ R.slots)
    (run : ∀ (s2 : State) (a2 : Array Value) (bl : List Frame) (R2 : Room) (ls2 : Array Slot), mm_Cx p R2 s2 mk a2 methk ck D cs A ad L xs k2 d2 → dl ≤ R2.cells → 6 * dl ≤ R2.slots → va_P D mm_cl (mm_ws cs ad M) s2.heap → mm_has ad (mm_ent (mm_ml k2) as) ls2 → W p l e R2 s2 mk a2 bl methk ck s2.heap [] 0 0 (mm_Z D cs A ad bl s2 r2 M2 dl (6 * dl)) (F0 mk 0 ls2 [])) :
    ∃ (t T2 : State) (Lw : List Loc), Steps p.tables e below (doInvoke e (T.setTop (F0 m pc ls (r.map (mm_v ad)))) [] mk (as.map (mm_v ad)).toArray).1 t ∧ Stand p l e R s m args below meth c T2 (locs ++ Lw) (cells + dl) (slots + 6 * dl) ∧ va_P D mm_cl (mm_ws cs ad M2) T2.heap ∧ va_S A s.heap T2.heap (locs ++ Lw) ∧
      (match r2 with
        | .inl v => t = T2.setTop (F0 m (pc + 3) ls ((v.toList ++ r).map (mm_v ad)))
        | .inr x => ∃ (a : Nat) (cell : Cell), t = (T2.setTop (F0 m pc ls (r.map (mm_v ad)))).pushFrame (.throwing a) ∧ T2.heap[a]? = some cell ∧ cell.vm = .none ∧ s.vm.findClass (mm_en x) = some cell.cls ∧ ∃ kX : Class, s.vm.classes[cell.cls]? = some kX) := by
  obtain ⟨⟨hx, hb, hml, hrt, hlk, hown, hex⟩, ⟨hts, hK, hO, hA, hSt⟩, hfr, hlo⟩ := hC
  obtain ⟨o1, o2, o3, o4, o5, o6, o7⟩ := mm_m_ok hk2
  have hnT : T.methodNamed? (mm_y k2) = some mk := X.named c0
  have hmT : T.vm.method? mk = some methk := by rw [X.warmed.alike.method?]; exact c1
  have hpk : T.plainMethod mk := by
    intro kk hkk
    obtain ⟨kP, hkP, hnm⟩ := className_of_methodNamed hnT
    cases hkk.symm.trans hkP
    exact plain_of_name (by rw [hnm]; exact o5)
  have hdg : decode c.code (F0 m pc ls (r.map (mm_v ad))).pc = .ok (ins, 3) := by rw [hb]; exact hd
  have hmr : (F0 m pc ls (r.map (mm_v ad))).monitorRoom = 0 := rfl
  obtain ⟨Y, hdo⟩ := X.into (g := F0 m pc ls (r.map (mm_v ad))) rfl (by rw [hml]; exact hls) hdg (as.map (mm_v ad)).toArray (R' := { frames := d2, cells := dl, slots := 6 * dl, locals := 40 * d2 }) hmT c2 c7 hpk hfr
    (by rw [hmr, mm_cats_map, c4]; show 2 * 0 + mm_cats r + (mm_ml k2 + 11) + 40 * d2 ≤ R.locals; omega) hdl hdl2
  have hheap : (T.calling (F0 m pc ls (r.map (mm_v ad))) mk (as.map (mm_v ad)).toArray).heap = H := hT
  have hW2 : s.WarmedH (T.calling (F0 m pc ls (r.map (mm_v ad))) mk (as.map (mm_v ad)).toArray).vm := X.warmed
  have hkeep : ∀ q : Nat, q < s.heap.size → ¬ A q → (T.calling (F0 m pc ls (r.map (mm_v ad))) mk (as.map (mm_v ad)).toArray).heap[q]? = s.heap[q]? := fun q h1 h2 => by rw [hheap]; exact hS.2.1 q h1 h2
  have hsz2 : s.heap.size ≤ (T.calling (F0 m pc ls (r.map (mm_v ad))) mk (as.map (mm_v ad)).toArray).heap.size := by rw [hheap]; exact hS.1
  have hent := lg_entry_eq mk (as.map (mm_v ad)) (mm_ml k2)
  have key := run (T.calling (F0 m pc ls (r.map (mm_v ad))) mk (as.map (mm_v ad)).toArray) (as.map (mm_v ad)).toArray (.java (F0 m pc ls (r.map (mm_v ad))) :: below) { frames := d2, cells := dl, slots := 6 * dl, locals := 40 * d2 } _
    ⟨⟨hx, c3, c4, c6, c7, by rw [← o2]; exact findClass_of_methodNamed (s := T.calling (F0 m pc ls (r.map (mm_v ad))) mk (as.map (mm_v ad)).toArray) hnT, c5⟩, ⟨mm_warm hW2 hts, va_K.moved hW2.alike hK, hO.moved hW2 hsz2 hkeep, fun q cell hq hc => by obtain ⟨p9, h9, rfl⟩ := hAw q hq; exact mm_ns hP h9 (by rw [hheap] at hc; exact hc), hSt.moved hW2 hkeep⟩, Nat.le_refl _, Nat.le_refl _⟩
    (Nat.le_refl _) (Nat.le_refl _) (by rw [hheap]; exact hP) (mm_ent_has ad has)
  rw [← hent, ← c4] at key
  obtain ⟨t, ht1, o, Lw, z1, z2, z3, z4, z5, z6, z7, z8⟩ := key ((T.setTop (F0 m pc ls (r.map (mm_v ad)))).pushFrame (.java (entryFrame mk (as.map (mm_v ad)).toArray ck.maxLocals))) rfl Y
  have hst : Steps p.tables e below (doInvoke e (T.setTop (F0 m pc ls (r.map (mm_v ad)))) [] mk (as.map (mm_v ad)).toArray).1 t := by
    rw [hdo []]
    exact Steps.weaken (mid := [.java (F0 m pc ls (r.map (mm_v ad)))]) ht1
  have hSn : ∀ T2 : State, T2.heap = t.heap → va_S A s.heap T2.heap (locs ++ Lw) := by
    intro T2 e2
    have z81 : H.size ≤ t.heap.size := by have := z8.1; rw [hheap] at this; exact this
    refine ⟨by rw [e2]; exact Nat.le_trans hS.1 z81, fun q h1 h2 => ?_, fun q hq => ?_⟩
    · rw [e2]
      have h3 := z8.2 q (by rw [hheap]; exact Nat.lt_of_lt_of_le h1 hS.1) h2
      rw [h3, hheap]
      exact hS.2.1 q h1 h2
    · rcases List.mem_append.mp hq with h | h
      · exact hS.2.2 q h
      · exact z6 q h
  cases r2 with
  | inl v =>
    have z3' : o = .returned (v.map (mm_v ad)) := z3
    rw [z3'] at z2
    obtain ⟨T2, Y2, -, -, ht2⟩ := X.outOf (g := F0 m pc ls (r.map (mm_v ad))) rfl hdg z2 z4 z5
    have e2 : T2.heap = t.heap := by rw [ht2]; rfl
    refine ⟨t, T2, Lw, hst, Y2, by rw [e2]; exact z7, hSn T2 e2, ?_⟩
    show t = T2.setTop (F0 m (pc + 3) ls ((v.toList ++ r).map (mm_v ad)))
    rw [ht2]
    congr 1
    cases v <;> simp
  | inr x =>
    obtain ⟨a, cell, z3', w1, w2, w3, kX, w4⟩ := z3
    rw [z3'] at z2
    obtain ⟨T2, Y2, -, -, ht2⟩ := X.outOfThrown (g := F0 m pc ls (r.map (mm_v ad))) rfl z2 z4 z5
    have e2 : T2.heap = t.heap := by rw [ht2]; rfl
    have w3' : s.vm.findClass (mm_en x) = some cell.cls := by
      have := hW2.alike.findClass (mm_en x)
      rw [this] at w3
      exact w3
    obtain ⟨kX', hkX'⟩ := Vm.classAt_of_findClass w3'
    exact ⟨t, T2, Lw, hst, Y2, by rw [e2]; exact z7, hSn T2 e2, a, cell, ht2, by rw [e2]; exact w1, w2, w3', kX', hkX'⟩
end MG
