/-! THE SMALL MACHINE IS SOUND: what it comes to, the machine comes to -/
section MS
variable {p : Program} {l : Launch} {e : Env} {D : va_G} {cs : mm_C} {A : Nat → Prop} {ad : Nat → Nat} {L : Nat} {xs : Nat → Int32}
theorem mm_out_none {k pc x : Nat} (h : mm_hnd k pc x = some none) : ∀ y : Nat × Nat × Nat × Nat, y ∈ mm_hs k → ¬ (y.1 ≤ pc ∧ pc < y.2.1) := by
  unfold mm_hnd at h
  split at h
  · rename_i hh; rw [hh]; intro y hy; cases hy
  · rename_i a0 b0 h0 t0 hh
    rw [hh]
    intro y hy
    rw [List.mem_singleton] at hy
    subst hy
    rw [cond_eq_if] at h
    split at h
    · rw [cond_eq_if] at h
      split at h
      · split at h <;> cases h
      · cases h
    · rename_i hn
      simpa using hn
  · cases h
set_option maxHeartbeats 4000000 in
theorem mm_sound (htr : e.platform.stackTraces = false) (hAw : ∀ q, A q → ∃ p, p < mm_nP ∧ q = ad p) (hDa : ∀ M, va_D A (mm_ws cs ad M)) : ∀ (n d k pc : Nat) (lo : List (Option Value)) (st : List Value) (M : mm_M) (r : mm_R) (M2 : mm_M), mm_run L xs n d k (pc, lo, st, M) = some (r, M2) → k < 291 → lo.length = mm_ml k →
    ∀ {R : Room} {s : State} {m : MethodId} {args : Array Value} {below : List Frame} {meth : Method} {c : Code} {H : Heap} {locs : List Loc} {cells slots kc ks : Nat} {ls : Array Slot}, mm_Cx p R s m args meth c D cs A ad L xs k d → mm_has ad lo ls → va_P D mm_cl (mm_ws cs ad M) H → va_S A s.heap H locs → kc = cells + (M2.2.2 - M.2.2) → ks = slots + 6 * (M2.2.2 - M.2.2) → kc ≤ R.cells → ks ≤ R.slots →
    W p l e R s m args below meth c H locs cells slots (mm_Z D cs A ad below s r M2 kc ks) (F0 m pc ls (st.map (mm_v ad))) := by
  intro n
  induction n with
  | zero => intro d k pc lo st M r M2 h; cases h
  | succ n ih =>
    intro d k pc lo st M r M2 h hk hlen R s m args below meth c H locs cells slots kc ks ls hC hl hP hS hkc hks hRc hRs
    have htc := mm_run_tc L xs _ _ _ _ _ _ h
    dsimp only at htc
    have hls : ls.size = mm_ml k := by rw [hl.1]; exact hlen
    have hC0 := hC
    obtain ⟨⟨hx, hb, hml, hrt, hlk, hown, hex⟩, ⟨hts, hK, hO, hNS, hSt⟩, hfr, hlo⟩ := hC
    simp only [mm_run] at h
    split at h
    · cases h
    · rename_i ins len hlook
      obtain ⟨hd, hok⟩ := mm_all_ok (mm_ckA k hk) _ (mm_look_mem _ _ _ hlook)
      dsimp only at hd hok
      split at h
      · rename_i pc2 lo2 st2 hp
        exact mm_plain hx hb hl hd (mm_okl_of hp hok) hp (fun ls2 hl2 => ih _ _ _ _ _ _ _ _ h hk ((mm_pure_len hp).trans hlen) hC0 hl2 hP hS hkc hks hRc hRs)
      · split at h
        · rename_i pc2 st2 M3 hp
          have h3 := mm_heap_tc hp
          exact mm_heap_ok hx hb hown hts hK hO hP (hDa M) hS hd (mm_okh_of hp hok) hp (fun H2 locs2 a1 _ a3 => ih _ _ _ _ _ _ _ _ h hk hlen hC0 hl a1 a3 (by rw [h3]; exact hkc) (by rw [h3]; exact hks) hRc hRs)
        · split at h
          · rename_i pc2 st2 hp
            exact mm_swi_ok hx hb hd hp (ih _ _ _ _ _ _ _ _ h hk hlen hC0 hl hP hS hkc hks hRc hRs)
          · split at h
            · rename_i v hp
              cases h
              have e1 : kc = cells := by omega
              have e2 : ks = slots := by omega
              rw [e1, e2]
              exact mm_ret_ok hC0 hP hS hd hok hp
            · split at h
              · rename_i st2 M3 hp
                rw [cond_eq_if] at h
                split at h
                · rename_i hd2
                  have h3 := mm_intr_tc hp
                  exact mm_intr_ok hC0 (of_decide_eq_true hd2) hls hP hDa hS (by omega) (by omega) hd hok hp (fun H2 locs2 a1 a3 => ih _ _ _ _ _ _ _ _ h hk hlen hC0 hl a1 a3 (by rw [h3]; exact hkc) (by rw [h3]; exact hks) hRc hRs)
                · cases h
              · split at h
                · rename_i e5 hp
                  rw [cond_eq_if] at h
                  split at h
                  · rename_i hd2
                    cases h
                    simp only [Bool.and_eq_true, decide_eq_true_eq] at hd2
                    have e1 : kc = cells + 1 := by dsimp only at hkc; omega
                    have e2 : ks = slots + 6 := by dsimp only at hks; omega
                    rw [e1, e2]
                    exact mm_thr_ok htr hC0 hd2.1 hls hP hS hp hd2.2 (by omega) (by omega)
                  · cases h
                · split at h
                  · cases h
                  · rename_i k2 as r2 hp
                    split at h
                    · cases h
                    · rename_i d2
                      have hd3 : decode (mm_b k) pc = .ok (ins, 3) := by
                        have : len = 3 := by
                          unfold mm_cal at hp
                          split at hp
                          · simpa [mm_okc] using hok
                          · simpa [mm_okc] using hok
                          · cases hp
                        rw [this] at hd
                        exact hd
                      split at h
                      · cases h
                      · rename_i v M3 hrun
                        have t1 := mm_run_tc L xs _ _ _ _ _ _ hrun
                        have t2 := mm_run_tc L xs _ _ _ _ _ _ h
                        dsimp only at t1 t2
                        intro T hT X
                        obtain ⟨i1, i2, i3, i4, vm₁, mk, methk, ck, X₁, c0, c1, c2, c3, c4, c5, c6, c7, hstep⟩ := mm_inv (ls := ls) hC0 X hT hP hp hd3
                        obtain ⟨t, T2, Lw, g1, Y, g2, g3, g4⟩ := mm_go (r2 := .inl v) (M2 := M3) (dl := M3.2.2 - M.2.2) hAw hC0 X₁ hT hP hS hls i4 hd3 i1 c0 c1 c2 c3 c4 c5 c6 c7 i3 (by omega) (by omega)
                          (fun s2 a2 bl R2 ls2 hC2 q1 q2 hP2 hl2 => ih _ _ _ _ [] _ _ _ hrun i1 (mm_ent_len i3) hC2 hl2 hP2 va_S.rf (by omega) (by omega) q1 q2)
                        have g4' : t = T2.setTop (F0 m (pc + 3) ls ((v.toList ++ r2).map (mm_v ad))) := g4
                        obtain ⟨u, w1, w2⟩ := ih _ _ _ _ _ _ _ _ h hk hlen (kc := kc) (ks := ks) hC0 hl g2 g3 (by omega) (by omega) hRc hRs T2 rfl Y
                        refine ⟨u, hstep u (fun acts => ?_), w2⟩
                        rw [doInvoke_state]
                        rw [g4'] at g1
                        exact g1.trans w1
                      · rename_i x M3 hrun
                        have t1 := mm_run_tc L xs _ _ _ _ _ _ hrun
                        dsimp only at t1
                        split at h
                        · cases h
                        · rename_i hh
                          cases h
                          intro T hT X
                          obtain ⟨i1, i2, i3, i4, vm₁, mk, methk, ck, X₁, c0, c1, c2, c3, c4, c5, c6, c7, hstep⟩ := mm_inv (ls := ls) hC0 X hT hP hp hd3
                          obtain ⟨t, T2, Lw, g1, Y, g2, g3, g4⟩ := mm_go (r2 := .inr x) (M2 := M2) (dl := M2.2.2 - M.2.2) hAw hC0 X₁ hT hP hS hls i4 hd3 i1 c0 c1 c2 c3 c4 c5 c6 c7 i3 (by omega) (by omega)
                            (fun s2 a2 bl R2 ls2 hC2 q1 q2 hP2 hl2 => ih _ _ _ _ [] _ _ _ hrun i1 (mm_ent_len i3) hC2 hl2 hP2 va_S.rf (by omega) (by omega) q1 q2)
                          obtain ⟨a, cell, g4, v1, v2, v3, kX, v4⟩ := g4
                          have hout : ∀ y ∈ c.exceptionTable.toList, covers y (F0 m pc ls (r2.map (mm_v ad))).pc = false := by
                            intro y hy
                            have := mm_out_none hh (y.startPc, y.endPc, y.handlerPc, y.catchType) (by rw [← hex]; exact List.mem_map.mpr ⟨y, hy, rfl⟩)
                            simp only [covers]
                            cases hq : (decide (y.startPc ≤ pc) && decide (pc < y.endPc)) with
                            | false => rfl
                            | true => simp only [Bool.and_eq_true, decide_eq_true_eq] at hq; exact absurd hq this
                          obtain ⟨z1, z2, z3, z4, z5⟩ := Y.leaveThrown a (g := F0 m pc ls (r2.map (mm_v ad))) rfl rfl rfl hout hlk
                          refine ⟨_, hstep _ (fun acts => ?_), .threw a, locs ++ Lw, z2, z3, ⟨a, cell, rfl, v1, v2, v3, kX, v4⟩, z4, ?_, g3.2.2, g2, ⟨g3.1, g3.2.1⟩⟩
                          · rw [doInvoke_state]
                            rw [g4] at g1
                            exact g1.trans z1
                          · rw [hkc, hks]
                            exact z5
                        · rename_i hn i9 hh
                          rw [cond_eq_if] at h
                          split at h
                          · rename_i hi9
                            have t2 := mm_run_tc L xs _ _ _ _ _ _ h
                            dsimp only at t2
                            intro T hT X
                            obtain ⟨i1, i2, i3, i4, vm₁, mk, methk, ck, X₁, c0, c1, c2, c3, c4, c5, c6, c7, hstep⟩ := mm_inv (ls := ls) hC0 X hT hP hp hd3
                            obtain ⟨t, T2, Lw, g1, Y, g2, g3, g4⟩ := mm_go (r2 := .inr x) (M2 := M3) (dl := M3.2.2 - M.2.2) hAw hC0 X₁ hT hP hS hls i4 hd3 i1 c0 c1 c2 c3 c4 c5 c6 c7 i3 (by omega) (by omega)
                              (fun s2 a2 bl R2 ls2 hC2 q1 q2 hP2 hl2 => ih _ _ _ _ [] _ _ _ hrun i1 (mm_ent_len i3) hC2 hl2 hP2 va_S.rf (by omega) (by omega) q1 q2)
                            obtain ⟨a, cell, g4, v1, v2, v3, kX, v4⟩ := g4
                            obtain ⟨u, w1, w2⟩ := mm_catch_ok (Q := mm_Z D cs A ad below s r M2 kc ks) (rst := r2.map (mm_v ad)) hC0 hk Y rfl hl hh (of_decide_eq_true hi9) v1 v2 v3 v4
                              (fun ls2 hl2 => ih _ _ _ _ [] _ _ _ h hk (by rw [mm_frg_len]; exact hlen) hC0 hl2 g2 g3 (by omega) (by omega) hRc hRs)
                            refine ⟨u, hstep u (fun acts => ?_), w2⟩
                            rw [doInvoke_state]
                            rw [g4] at g1
                            exact g1.trans w1
                          · cases h
end MS
