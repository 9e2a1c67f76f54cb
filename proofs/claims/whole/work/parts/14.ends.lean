/-! SWITCHES, RETURNS, THE LIBRARY'S OWN THREE -/
theorem mm_okl_of {ins : Instr} {pc len : Nat} {lo : List (Option Value)} {st : List Value} {x : Nat × List (Option Value) × List Value} (h : mm_pure ins pc len lo st = some x) (hk : mm_okc ins len = true) : mm_okl ins len = true := by
  cases ins <;> first | exact hk | (cases h; done)
theorem mm_okh_of {o L : Nat} {xs : Nat → Int32} {ins : Instr} {pc len : Nat} {st : List Value} {M : mm_M} {x : Nat × List Value × mm_M} (h : mm_heap o L xs ins pc st M = some x) (hk : mm_okc ins len = true) : mm_okh ins len = true := by
  cases ins <;> first | exact hk | (cases h; done)
theorem W_mono {p : Program} {l : Launch} {e : Env} {R : Room} {s : State} {m : MethodId} {args : Array Value} {below : List Frame} {meth : Method} {c : Code} {H : Heap} {locs : List Loc} {cells slots : Nat} {Q Q2 : State → Prop} {g : JFrame} (hq : ∀ t, Q t → Q2 t) (h : W p l e R s m args below meth c H locs cells slots Q g) : W p l e R s m args below meth c H locs cells slots Q2 g := by
  intro T hT X
  obtain ⟨t, h1, h2⟩ := h T hT X
  exact ⟨t, h1, hq t h2⟩
section ME
variable {p : Program} {l : Launch} {e : Env} {R : Room} {s : State} {m : MethodId} {args : Array Value} {below : List Frame} {meth : Method} {c : Code} {H : Heap} {locs : List Loc} {cells slots : Nat} {Q : State → Prop}
variable {D : va_G} {cs : mm_C} {A : Nat → Prop} {ad : Nat → Nat} {L : Nat} {xs : Nat → Int32} {k d : Nat} {pc len : Nat} {ls : Array Slot} {st : List Value} {M : mm_M} {ins : Instr}
theorem mm_swi_ok (hx : p.tables.exec = Jvm.exec) (hb : c.code = mm_b k) (hd : decode (mm_b k) pc = .ok (ins, len)) {pc2 : Nat} {st2 : List Value} (h : mm_swi ins pc st = some (pc2, st2)) (kk : W p l e R s m args below meth c H locs cells slots Q (F0 m pc2 ls (st2.map (mm_v ad)))) : W p l e R s m args below meth c H locs cells slots Q (F0 m pc ls (st.map (mm_v ad))) := by
  unfold mm_swi at h
  split at h
  · rename_i dflt lo hi offs
    split at h
    · rename_i x r
      rw [cond_eq_if] at h
      split at h
      · rename_i h1
        rw [cond_eq_if] at h
        split at h
        · rename_i h2
          cases h
          simp only [Bool.or_eq_true, decide_eq_true_eq] at h1 h2
          exact lv_tableOut hx hb hd h1 (Int.toNat_of_nonneg h2).symm kk
        · cases h
      · rename_i h1
        simp only [Bool.or_eq_true, decide_eq_true_eq, not_or] at h1
        split at h
        · rename_i off ho
          rw [cond_eq_if] at h
          split at h
          · rename_i h2
            cases h
            simp only [decide_eq_true_eq] at h2
            exact lv_tableIn hx hb hd h1.1 h1.2 ho (Int.toNat_of_nonneg h2).symm kk
          · cases h
        · cases h
    · cases h
  · rename_i dflt ps
    split at h
    · rename_i x r
      rw [cond_eq_if] at h
      split at h
      · rename_i h1
        cases h
        simp only [Bool.and_eq_true, decide_eq_true_eq] at h1
        exact lv_lookup hx hb hd h1.1 rfl (Int.toNat_of_nonneg h1.2).symm kk
      · cases h
    · cases h
  · cases h
theorem mm_ret_ok (hC : mm_Cx p R s m args meth c D cs A ad L xs k d) (hP : va_P D mm_cl (mm_ws cs ad M) H) (hS : va_S A s.heap H locs) (hd : decode (mm_b k) pc = .ok (ins, len)) (hk : mm_okc ins len = true) {v : Option Value} (h : mm_ret k ins st = some v) : W p l e R s m args below meth c H locs cells slots (mm_Z D cs A ad below s (.inl v) M cells slots) (F0 m pc ls (st.map (mm_v ad))) := by
  obtain ⟨⟨hx, hb, hml, hrt, hlk, hown, hex⟩, -, -⟩ := hC
  have fin : ∀ (v : Option Value) (t : State), MQ below (fun _ _ o t => o = .returned (v.map (mm_v ad)) ∧ t.heap = H) args s cells slots (fun q => A q) t → mm_Z D cs A ad below s (.inl v) M cells slots t := by
    intro v t hz
    obtain ⟨o, z1, z2, ⟨z3, z4⟩, Lw, ⟨-, z5, z6⟩, z7⟩ := hz
    exact ⟨o, Lw, z1, z2, z3, z5, z6, z7, by rw [z4]; exact hP, hS.F z4⟩
  unfold mm_ret at h
  split at h
  · have hk : len = 1 := by simpa [mm_okc] using hk
    subst hk
    rename_i x
    split at h
    · rename_i hr
      cases h
      exact W_mono (fin _) (W.iret (Qc := fun _ _ o t => o = .returned ((some (Value.int x)).map (mm_v ad)) ∧ t.heap = H) (free := fun q => A q) hx hb (by rw [hrt]; exact hr) (fun t h1 h2 => ⟨rfl, h1⟩) hS.2.2 hd hlk)
    · rename_i hr
      rw [cond_eq_if] at h
      split at h
      · rename_i hv
        cases h
        exact W_mono (fin _) (W.zret (Qc := fun _ _ o t => o = .returned ((some (Value.int x)).map (mm_v ad)) ∧ t.heap = H) (free := fun q => A q) hx hb (by rw [hrt]; exact hr) (mm_nar_bool hv).1 (fun t h1 h2 => ⟨rfl, h1⟩) hS.2.2 hd hlk)
      · cases h
    · cases h
  · have hk : len = 1 := by simpa [mm_okc] using hk
    subst hk
    rename_i x
    split at h
    · rename_i hr
      cases h
      exact W_mono (fin _) (W.lret (Qc := fun _ _ o t => o = .returned ((some (Value.long x)).map (mm_v ad)) ∧ t.heap = H) (free := fun q => A q) hx hb (by rw [hrt]; exact hr) (fun t h1 h2 => ⟨rfl, h1⟩) hS.2.2 hd hlk)
    · cases h
  · have hk : len = 1 := by simpa [mm_okc] using hk
    subst hk
    split at h
    · rename_i hr
      cases h
      exact W_mono (fin _) (W.vret (Qc := fun _ _ o t => o = .returned ((none : Option Value).map (mm_v ad)) ∧ t.heap = H) (free := fun q => A q) hx hb (by rw [hrt]; exact hr) (fun t h1 h2 => ⟨rfl, h1⟩) hS.2.2 hd hlk)
    · cases h
  · cases h
theorem mm_ws_cp {sr d n0 n1 sp dp n : Nat} (hd : mm_nth mm_sh d = some (.inr (0, n1))) : (mm_ws cs ad M).set d (ad d, .inl (cs.1, n1, .inl (va_cpy (M.1 sr) (M.1 d) sp dp n))) = mm_ws cs ad ((fun q j => if q = d then va_cpy (M.1 sr) (M.1 d) sp dp n j else M.1 q j, M.2.1, M.2.2) : mm_M) := by
  refine mm_wsF_set cs ad M _ d _ mm_sh 0 d (by omega) (fun s hs => ?_) (fun i s hi => mm_el_ne (M := M) (M2 := ((fun q j => if q = d then va_cpy (M.1 sr) (M.1 d) sp dp n j else M.1 q j, M.2.1, M.2.2) : mm_M)) (p := i) cs ad (fun j => by simp [hi]) (fun j => rfl) s)
  rw [hd] at hs
  cases hs
  simp [mm_el]
theorem mm_intr_ok (hC : mm_Cx p R s m args meth c D cs A ad L xs k d) (hdd : 2 ≤ d) (hls : ls.size = mm_ml k) (hP : va_P D mm_cl (mm_ws cs ad M) H) (hD : ∀ M, va_D A (mm_ws cs ad M)) (hS : va_S A s.heap H locs) (hc : cells ≤ R.cells) (hs : slots ≤ R.slots) (hd : decode (mm_b k) pc = .ok (ins, len)) (hk : mm_okc ins len = true) {st2 : List Value} {M2 : mm_M} (h : mm_intr (mm_own k) ins st M = some (st2, M2))
    (kk : ∀ (H2 : Heap) (locs2 : List Loc), va_P D mm_cl (mm_ws cs ad M2) H2 → va_S A s.heap H2 locs2 → W p l e R s m args below meth c H2 locs2 cells slots Q (F0 m (pc + 3) ls (st2.map (mm_v ad)))) : W p l e R s m args below meth c H locs cells slots Q (F0 m pc ls (st.map (mm_v ad))) := by
  obtain ⟨⟨hx, hb, hml, hrt, hlk, hown, hex⟩, ⟨hts, hK, hO, hA, hSt⟩, hfr, hlo⟩ := hC
  unfold mm_intr at h
  split at h
  · rename_i idx
    have hk : len = 3 := by simpa [mm_okc] using hk
    subst hk
    split at h
    · rename_i hi
      have hw := mm_int_ok hi
      split at h
      · rename_i y x r
        rw [cond_eq_if] at h
        split at h
        · rename_i hr
          cases h
          have hr := of_decide_eq_true hr
          exact va_mmin hx hb (by rw [hml, hls]) hown (hts _ hw) (hts _ mm_wmins) (hts _ mm_wmth) (hts _ mm_wmin) (by omega) (by rw [mm_cats_map]; omega) hc hs hd (kk H locs hP hS)
        · cases h
      · cases h
    · rename_i hi
      have hw := mm_int_ok hi
      split at h
      · rename_i y x r
        rw [cond_eq_if] at h
        split at h
        · rename_i hr
          cases h
          have hr := of_decide_eq_true hr
          exact va_mmax hx hb (by rw [hml, hls]) hown (hts _ hw) (hts _ mm_wmaxs) (hts _ mm_wmth) (hts _ mm_wmax) (by omega) (by rw [mm_cats_map]; omega) hc hs hd (kk H locs hP hS)
        · cases h
      · cases h
    · rename_i hi
      have hw := mm_int_ok hi
      split at h
      · rename_i n dp dd sp sr r
        split at h
        · rename_i n0 n1 hs0 hs1
          rw [cond_eq_if] at h
          split at h
          · rename_i hr
            cases h
            simp only [Bool.and_eq_true, Bool.not_eq_true', decide_eq_true_eq, decide_eq_false_iff_not] at hr
            obtain ⟨⟨⟨⟨⟨r1, r2⟩, r3⟩, r4⟩, r5⟩, r6⟩ := hr
            refine va_copyi (ty := .int) hx hb (by rw [hml, hls]) hown (hts _ hw) (hts _ mm_wcpn) (hts _ mm_wcps) (hts _ mm_wsys) hK hP (hD M) hS sr dd 0 0 (mm_ws_ints (mm_aat_ok hs0)) (mm_ws_ints (mm_aat_ok hs1)) rfl rfl rfl r1 r2 r3 r4 r5 (fun i _ => rfl) (by omega) (by rw [mm_cats_map]; show mm_cats _ + (5 + 2 + 11) ≤ R.locals; omega) hd (fun H2 locs2 a1 a2 a3 => ?_)
            rw [mm_ws_cp (n0 := n0) (mm_aat_ok hs1)] at a1
            exact kk H2 locs2 a1 a3
          · cases h
        · cases h
      · cases h
    · cases h
  · cases h
end ME
