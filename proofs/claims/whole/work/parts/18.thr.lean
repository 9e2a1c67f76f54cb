/-! A THROW OF ONE'S OWN, walked -/
section MT
variable {p : Program} {l : Launch} {e : Env} {R : Room} {s : State} {m : MethodId} {args : Array Value} {below : List Frame} {meth : Method} {c : Code} {H : Heap} {locs : List Loc} {cells slots : Nat} {Q : State → Prop}
variable {D : va_G} {cs : mm_C} {A : Nat → Prop} {ad : Nat → Nat} {L : Nat} {xs : Nat → Int32} {k d : Nat} {pc len : Nat} {ls : Array Slot} {st : List Value} {M : mm_M} {cc : ByteArray}
theorem mm_ldcS (hx : p.tables.exec = Jvm.exec) (hb : c.code = cc) {own tx : String} {index w : Nat} (hw : w < 2) (hown : s.vm.findClass own = some m.cls) (hZ : (Cond.stringRef own index tx).before args s = true) (hdg : decode cc pc = .ok ((bif w == 0 then Instr.ldc index else Instr.ldc_w index), 2 + w)) {rest : List Value}
    (kk : ∀ q : Nat, W p l e R s m args below meth c H locs cells slots Q (F0 m (pc + (2 + w)) ls (.ref q :: rest))) : W p l e R s m args below meth c H locs cells slots Q (F0 m pc ls rest) := by
  obtain ⟨kc, cf, i, a', hk, hcf, hcp, -, hr, hev⟩ := Cond.stringRef_spec hown hZ
  match w, hw, hdg, kk with
  | 0, _, hdg, kk =>
    intro T hT X
    obtain ⟨t, a1, b1⟩ := kk a' T hT X
    exact ⟨t, X.ldcString hx hown (text := tx) (a := a') hZ hev (g := F0 m pc ls rest) rfl (by rw [hb]; exact hdg) t a1, b1⟩
  | 1, _, hdg, kk =>
    intro T hT X
    obtain ⟨t, a1, b1⟩ := kk a' T hT X
    refine ⟨t, ?_, b1⟩
    obtain ⟨k', hk', he⟩ := X.warmed.alike.2.2 _ _ hk
    have hr' : k'.resolved[index]? = some (some (.string a')) := by
      rcases X.warmed.entry hk hk' index with h | ⟨h, -⟩
      · rw [h]; exact hr
      · rw [hr] at h; cases h
    have hdg' : decode cc pc = .ok (.ldc_w index, 3) := hdg
    jvm_step X.here [hx, hb, hdg', ldc_w.wp_string (e := e) (s := T) (f := F0 m pc ls rest) X.here.top hk' (by rw [he]; exact hcf) hcp hr']
    exact a1
set_option maxHeartbeats 2000000 in
theorem mm_thr_ok (htr : e.platform.stackTraces = false) (hC : mm_Cx p R s m args meth c D cs A ad L xs k d) (h7 : 7 ≤ d) (hls : ls.size = mm_ml k) (hP : va_P D mm_cl (mm_ws cs ad M) H) (hS : va_S A s.heap H locs) {e5 : Nat × Nat × Nat × Nat × Nat × Nat × Nat × String} (h : mm_thr k pc = some e5) (hcat : mm_cats st ≤ 8) (hc : cells + 1 ≤ R.cells) (hs : slots + 6 ≤ R.slots) :
    W p l e R s m args below meth c H locs cells slots (mm_Z D cs A ad below s (.inr e5.2.2.1) (M.1, M.2.1, M.2.2 + 1) (cells + 1) (slots + 6)) (F0 m pc ls (st.map (mm_v ad))) := by
  obtain ⟨⟨hx, hb, hml, hrt, hlk, hown, hex⟩, ⟨hts, hK, hO, hNS, hSt⟩, hfr, hlo⟩ := hC
  unfold mm_thr at h
  have hmem := List.mem_of_find?_eq_some h
  have hfs := List.find?_some h
  simp only [Bool.and_eq_true, beq_iff_eq] at hfs
  have h1 := List.all_eq_true.mp mm_thk _ hmem
  simp only [mm_tho, Bool.and_eq_true, decide_eq_true_eq] at h1
  obtain ⟨⟨⟨⟨⟨⟨⟨d0, d1⟩, d2⟩, d3⟩, d4⟩, hw2⟩, hx4⟩, hhs⟩ := h1
  have hzip : ∃ q : Nat × Nat × Nat, (e5, q) ∈ mm_thL.zip mm_thP := by
    obtain ⟨i, hi⟩ := List.getElem?_of_mem hmem
    have hlen : mm_thP.length = mm_thL.length := by decide +kernel
    have hil := (List.getElem?_eq_some_iff.mp hi).1
    have hi2 : mm_thP[i]? = some mm_thP[i] := List.getElem?_eq_getElem (by omega)
    exact ⟨mm_thP[i], List.mem_of_getElem? (i := i) (by rw [List.getElem?_zip_eq_some]; exact ⟨hi, hi2⟩)⟩
  obtain ⟨q, hq⟩ := hzip
  have h2 := List.all_eq_true.mp mm_thw _ hq
  simp only [Bool.and_eq_true, decide_eq_true_eq] at h2
  obtain ⟨⟨wc, wr⟩, wm⟩ := h2
  obtain ⟨hk5, hpc5⟩ := hfs
  obtain ⟨k5, pc5, x5, idx5, i25, ic5, w5, tx5⟩ := e5
  dsimp only at hk5 hpc5 d0 d1 d2 d3 d4 hw2 hx4 hhs wc wr wm ⊢
  subst hk5; subst hpc5
  obtain ⟨hini, hinst⟩ := mm_ini_e x5 hx4
  intro T hT X
  have X0 := mm_rebase (kc := 1) (ks := 6) X hc hs
  have hTh : (T.setFrames (.invoking m args :: below)).heap = H := hT
  have hW0 : s.WarmedH (T.setFrames (.invoking m args :: below)).vm := X.warmed
  have hkeep : ∀ q : Nat, q < s.heap.size → ¬ A q → (T.setFrames (.invoking m args :: below)).heap[q]? = s.heap[q]? := fun q g1 g2 => by
    rw [hTh]
    exact hS.2.1 q g1 g2
  have hout : ∀ x ∈ c.exceptionTable.toList, covers x (pc5 + 6 + w5 + 3) = false := by
    rw [hhs] at hex
    have : c.exceptionTable.toList = [] := List.map_eq_nil_iff.mp hex
    intro x hx9
    rw [this] at hx9
    cases hx9
  have hown0 : (T.setFrames (.invoking m args :: below)).vm.findClass (mm_cn (mm_own k5)) = some m.cls := by rw [hW0.alike.findClass]; exact hown
  have hts0 := mm_warm (a' := args) hW0 hts
  have hat0 := mm_atoms (args := args) hts0 (hSt.moved hW0 hkeep) hx4 (hts0 _ (mm_tb wm))
  generalize hs0 : T.setFrames (.invoking m args :: below) = s0 at X0 hTh hW0 hkeep hown0 hts0 hat0
  have key : W p l e { frames := R.frames, cells := 1, slots := 6, locals := R.locals } s0 m args below meth c H [] 0 0 (fun U => U.status = .running ∧ Ended U below (.threw H.size) ∧ s0.WarmedH U.vm ∧ s0.sameButNew ({ U with vm := s0.vm } : State) [] 1 6 ∧ ∃ ce, U.heap[H.size]? = some ce ∧ ce.vm = .none ∧ s0.vm.findClass (mm_en x5) = some ce.cls) (F0 m pc5 ls (st.map (mm_v ad))) := by
    refine W.newc (g := F0 m pc5 ls (st.map (mm_v ad))) hx hb hown0 (hts0 _ (mm_tb wc)) (hts0 _ hinst) (hts0 _ hini) rfl d0 (Nat.le_refl _) (Nat.le_refl _) (fun cC kC f1 f2 f3 f4 => ?_)
    refine lv_dup (va := .ref H.size) hx hb d1 rfl ?_
    refine mm_ldcS hx hb hw2 hown0 (hts0 _ (mm_tb wr)) d2 (fun qm => ?_)
    intro T1 hT1 X1
    obtain ⟨U, u1, u2, u3, u4, u5, ce, u6, u7⟩ := X1.ctorThrowS hx htr (own := mm_cn (mm_own k5)) (cls := mm_en x5) (names := mm_up) (ic := ic5) hown0 (mm_fit_e x5 hx4) (by decide +kernel)
      hat0 (fun x hx => by cases hx) (a := H.size) f1 f2 (by rw [hT1, Array.getElem?_push]; simp [freshCell]) (by rw [hTh]; exact Nat.le_refl _)
      (msg := .ref qm) rfl (g := F0 m (pc5 + 3 + 1 + (2 + w5)) ls (.ref qm :: .ref H.size :: .ref H.size :: st.map (mm_v ad))) rfl (by rw [hml]; exact hls) rfl rfl (rest := st.map (mm_v ad)) rfl
      (by rw [hb]; show decode (mm_b k5) (pc5 + 3 + 1 + (2 + w5)) = _; rw [show pc5 + 3 + 1 + (2 + w5) = pc5 + 6 + w5 by omega]; exact d3)
      (by rw [hb]; show decode (mm_b k5) (pc5 + 3 + 1 + (2 + w5) + 3) = _; rw [show pc5 + 3 + 1 + (2 + w5) + 3 = pc5 + 9 + w5 by omega]; exact d4)
      (by show ∀ x ∈ c.exceptionTable.toList, covers x (pc5 + 3 + 1 + (2 + w5) + 3) = false; rw [show pc5 + 3 + 1 + (2 + w5) + 3 = pc5 + 6 + w5 + 3 by omega]; exact hout)
      (by show 2 + 3 < R.frames; omega) (by rw [List.map_cons, List.sum_cons, mm_cats_map]; show 2 * 0 + (1 + mm_cats st) + (13 * (2 + 1) + 42) ≤ R.locals; omega) hlk
    exact ⟨U, u1, u2, u3, u4, u5, ce, u6, u7.vm, u7.cls⟩
  obtain ⟨U, u1, u2, u3, u4, u5, ce, u6, u7, u8⟩ := key T hT X0
  have hold : ∀ q : Nat, q < H.size → U.heap[q]? = H[q]? := by
    intro q hq9
    have g0 : s0.heap[q]? = some H[q] := by rw [hTh]; exact Array.getElem?_eq_getElem hq9
    obtain ⟨c', g1, g2, g3, g4⟩ := u5.2.2.2.2.2 q _ g0
    have g5 : U.heap[q]? = some c' := g1
    rw [g5, Array.getElem?_eq_getElem hq9]
    have g6 : c'.slots = H[q].slots := by
      apply Array.ext_getElem?
      intro i
      exact g4 i (by simp)
    rw [g2, g6]
  have hUs : H.size ≤ U.heap.size := by
    have := u5.2.1
    rw [hTh] at this
    exact this
  have hsame : T.sameButNew (({ U with vm := s0.vm } : State)) [] 1 6 := by
    obtain ⟨q1, q2, q3, q4, q5, q6⟩ := u5
    subst hs0
    rw [State.setFrames_setFrames] at q1
    exact ⟨q1, q2, q3, q4, q5, q6⟩
  have hs2 := X.same.trans (hsame.setVm s.vm)
  rw [List.append_nil] at hs2
  have hvmA : s0.vm = T.vm := by rw [← hs0]; rfl
  have hW2 : s.WarmedH U.vm := by
    have hW3 : T.WarmedH U.vm := by
      have := u4
      rw [← hs0] at this
      exact this
    exact State.WarmedH.trans X.warmed hW3
  have u8' : s.vm.findClass (mm_en x5) = some ce.cls := by
    rw [hW0.alike.findClass] at u8
    exact u8
  obtain ⟨kX, hkX⟩ := Vm.classAt_of_findClass u8'
  refine ⟨U, u1, .threw H.size, locs, u2, u3, ⟨H.size, ce, rfl, u6, u7, u8', kX, hkX⟩, hW2, hs2, hS.2.2, ?_, ?_⟩
  · exact hP.kept (fun k9 q9 hq9 => hold q9.1 (hP k9 q9 hq9).lt)
  · exact ⟨Nat.le_trans hS.1 hUs, fun q9 g1 g2 => by rw [hold q9 (Nat.lt_of_lt_of_le g1 hS.1)]; exact hS.2.1 q9 g1 g2⟩
end MT
