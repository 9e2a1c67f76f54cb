/-! CAUGHT IN A HANDLER OF THE METHOD'S OWN -/
theorem mm_hcl {k t x : Nat} (h : (k, t, x) ∈ [(0, 13, 3), (1, 19, 1), (2, 25, 2), (3, 13, 3), (4, 19, 1), (5, 25, 2), (6, 25, 2), (7, 19, 1), (8, 19, 1), (9, 19, 1), (10, 25, 2), (11, 25, 2), (17, 169, 0)]) : Cond.classLink (mm_cn (mm_own k)) t (mm_en x) ∈ mm_tbl ∧ t ≠ 0 := by
  simp only [List.mem_cons, Prod.mk.injEq, List.not_mem_nil, or_false] at h
  have h1 : Cond.classLink "PlainPacksLaw" 13 "java/lang/UnsupportedOperationException" ∈ mm_tbl := mm_tb (j := 561) (by decide +kernel)
  have h2 : Cond.classLink "PlainPacksLaw" 19 "java/lang/IllegalArgumentException" ∈ mm_tbl := mm_tb (j := 642) (by decide +kernel)
  have h3 : Cond.classLink "PlainPacksLaw" 25 "java/lang/IndexOutOfBoundsException" ∈ mm_tbl := mm_tb (j := 666) (by decide +kernel)
  have h4 : Cond.classLink "PlainPacks" 169 "java/lang/IllegalStateException" ∈ mm_tbl := mm_tb (j := 705) (by decide +kernel)
  rcases h with ⟨rfl, rfl, rfl⟩ | ⟨rfl, rfl, rfl⟩ | ⟨rfl, rfl, rfl⟩ | ⟨rfl, rfl, rfl⟩ | ⟨rfl, rfl, rfl⟩ | ⟨rfl, rfl, rfl⟩ | ⟨rfl, rfl, rfl⟩ | ⟨rfl, rfl, rfl⟩ | ⟨rfl, rfl, rfl⟩ | ⟨rfl, rfl, rfl⟩ | ⟨rfl, rfl, rfl⟩ | ⟨rfl, rfl, rfl⟩ | ⟨rfl, rfl, rfl⟩
  · exact ⟨h1, by decide⟩
  · exact ⟨h2, by decide⟩
  · exact ⟨h3, by decide⟩
  · exact ⟨h1, by decide⟩
  · exact ⟨h2, by decide⟩
  · exact ⟨h3, by decide⟩
  · exact ⟨h3, by decide⟩
  · exact ⟨h2, by decide⟩
  · exact ⟨h2, by decide⟩
  · exact ⟨h2, by decide⟩
  · exact ⟨h3, by decide⟩
  · exact ⟨h3, by decide⟩
  · exact ⟨h4, by decide⟩
section MK
variable {p : Program} {l : Launch} {e : Env} {R : Room} {s : State} {m : MethodId} {args : Array Value} {below : List Frame} {meth : Method} {c : Code} {T : State} {H : Heap} {locs : List Loc} {cells slots : Nat} {Q : State → Prop}
variable {D : va_G} {cs : mm_C} {A : Nat → Prop} {ad : Nat → Nat} {L : Nat} {xs : Nat → Int32} {k d : Nat} {pc : Nat} {ls : Array Slot} {lo : List (Option Value)}
set_option maxHeartbeats 1000000 in
theorem mm_catch_ok (hC : mm_Cx p R s m args meth c D cs A ad L xs k d) (hk : k < 291) (X : Stand p l e R s m args below meth c T locs cells slots) (hT : T.heap = H) (hl : mm_has ad lo ls) {x h i : Nat} (hh : mm_hnd k pc x = some (some (h, i))) (hi : i < lo.length) {a : Nat} {cell : Cell} (hcell : T.heap[a]? = some cell) (hvm : cell.vm = .none) (hfc : s.vm.findClass (mm_en x) = some cell.cls) {kX : Class} (hkX : s.vm.classes[cell.cls]? = some kX) {rst : List Value}
    (kk : ∀ ls2, mm_has ad (mm_frg lo i) ls2 → W p l e R s m args below meth c H locs cells slots Q (F0 m h ls2 [])) :
    ∃ t, Steps p.tables e below ((T.setTop (F0 m pc ls rst)).pushFrame (.throwing a)) t ∧ Q t := by
  obtain ⟨⟨hx, hb, hml, hrt, hlk, hown, hex⟩, ⟨hts, hK, hO, hNS, hSt⟩, hfr, hlo⟩ := hC
  unfold mm_hnd at hh
  split at hh
  · cases hh
  · rename_i a0 b0 h0 t0 hhs
    rw [cond_eq_if] at hh
    split at hh
    · rename_i hcov
      simp only [Bool.and_eq_true, decide_eq_true_eq] at hcov
      rw [cond_eq_if] at hh
      split at hh
      · rename_i hin
        obtain ⟨hwl, ht0⟩ := mm_hcl (of_decide_eq_true hin)
        rw [hhs] at hex
        obtain ⟨y, htab, hy⟩ : ∃ y : ExceptionTableEntry, c.exceptionTable.toList = [y] ∧ (y.startPc, y.endPc, y.handlerPc, y.catchType) = (a0, b0, h0, t0) := by
          cases hl9 : c.exceptionTable.toList with
          | nil => rw [hl9] at hex; cases hex
          | cons y r =>
            rw [hl9] at hex
            cases r with
            | nil => simp only [List.map_cons, List.map_nil, List.cons.injEq, and_true] at hex; exact ⟨y, rfl, hex⟩
            | cons y2 r2 => simp at hex
        simp only [Prod.mk.injEq] at hy
        obtain ⟨y1, y2, y3, y4⟩ := hy
        have hcv : covers y pc = true := by simp [covers, y1, y2, hcov]
        have hpl : e.platform.magicAccessors = ({} : Platform).magicAccessors := by rw [X.admits.platform]
        obtain ⟨c', hc', hcl⟩ := Cond.classLink_spec hown (hts _ hwl) e.platform hpl
        cases hfc.symm.trans hc'
        obtain ⟨dk, _, _, kt, hd, _, _, _, _, hkt, _, hopen⟩ := hcl.here
        have hcl₀ := X.warmed.classLinks hcl
        have hW' : s.WarmedH (T.vm.noted m.cls t0 (.cls cell.cls)) := X.warmed.noted hd hopen (State.rightAt_cls hcl)
        obtain ⟨ks', hks', -⟩ := hW'.alike.2.2 _ _ hkX
        have hfi : mm_Fi e ((T.setTop (F0 m pc ls rst)).pushFrame (.throwing a)) (F0 m pc ls rst) a (.found h0) (T.vm.noted m.cls t0 (.cls cell.cls)) := by
          intro Q9 E9 d9 acts9
          have hvmT := Stand.throwing_vm T (F0 m pc ls rst) a
          have hheT := Stand.throwing_heap T (F0 m pc ls rst) a
          rw [Jvm.W.findHandler_eq (meth := meth) (code := c) (by rw [hvmT]; exact X.method') X.code, htab, ← y3]
          refine mm_goCold (c := cell.cls) (cell := cell) hcv (by rw [y4]; exact ht0) ?_ ?_ (by rw [hheT]; exact hcell) (fun z hz => by rw [hvm] at hz; cases hz) ⟨ks', hks'⟩ ⟨ks', hks'⟩ (va_asg _ _)
          · rw [hvmT, y4]
            exact resolveClass_links e.toSetting hcl₀
          · rw [hvmT]
            no_record
        have fin : ∀ ls2 : Array Slot, W p l e R s m args below meth c H locs cells slots Q (F0 m h0 ls2 [.ref a]) → ls2 = ls → ∃ t, Steps p.tables e below ((T.setTop (F0 m pc ls rst)).pushFrame (.throwing a)) t ∧ Q t := by
          intro ls2 hw he
          subst he
          obtain ⟨t, w1, w2⟩ := hw (T.setVm (T.vm.noted m.cls t0 (.cls cell.cls))) hT (X.noted hW')
          exact ⟨t, mm_caught (g := F0 m pc ls2 rst) X.here hfi w1, w2⟩
        split at hh
        · rename_i i9 hlook
          cases hh
          have he := (mm_all_ok (mm_ckA k hk) _ (mm_look_mem _ _ _ hlook)).1
          exact fin ls (lv_astore_n hx hb he rfl hl.lv hi rfl (fun ls2 h2 => kk ls2 (mm_has.frg h2))) rfl
        · rename_i i9 hlook
          cases hh
          have he := (mm_all_ok (mm_ckA k hk) _ (mm_look_mem _ _ _ hlook)).1
          exact fin ls (lv_astore hx hb he hl.lv hi rfl (fun ls2 h2 => kk ls2 (mm_has.frg h2))) rfl
        · cases hh
      · cases hh
    · cases hh
  · cases hh
end MK
