/-! CONSTRUCTORS: the leaves -/
set_option maxHeartbeats 4000000 in
set_option maxRecDepth 100000 in
theorem mj_k_codes_288 (l : Launch) (D : va_G) (cs : mm_C) (r h0 : Nat) : mj_Met l ⟨"PlainPacks$Codes", "<init>", "(I)V"⟩ prog_4_method_1_code 2 1 12 D cs r [.ref h0, .int 288] [(h0, .inr (7, [.null, .null, .null, .null, .int 0, .int 0]))] 4 618 (fun w => ∃ q7 q15 q22 q29 : Nat, w = [(h0, .inr (7, [.ref q22, .ref q29, .ref q7, .ref q15, .int 0, .int 0])), (q7, .inl (cs.1, 21, .inl (fun _ => 0))), (q15, .inl (cs.1, 21, .inl (fun _ => 0))), (q22, .inl (cs.1, 288, .inl (fun _ => 0))), (q29, .inl (cs.1, 288, .inl (fun _ => 0)))]) := by
  intro sz
  refine Met.ofW (cc := prog_4_method_1_code) (maxL := 2) (ret := none) (by decide) rfl ?_
  intro p e s m args below meth c s₁ B hml hv
  obtain ⟨rfl, hsz, hP, hK, hD0, hE⟩ := hv
  have hx := B.exec
  have hb := B.bytes
  have hr := B.returns
  have hts0 := atoms_spec B.pre
  have hts : ∀ w ∈ mj_tb, w.before _ s = true := fun w hw => hts0 w (List.mem_cons_of_mem _ hw)
  have hown : s.vm.findClass (mm_cn 7) = some m.cls := findClass_of_methodNamed B.named
  have hlocks := B.notSynchronized
  have hin : meth.name = "<init>" := (name_of_methodNamed B.named B.method).1
  subst hsz
  have hD := hD0.self (sz := s.heap.size)
  generalize hAe : va_A [(h0, .inr (7, [.null, .null, .null, .null, .int 0, .int 0]))] s.heap.size = A at hD hE ⊢
  have hA : ∀ q : Nat, s.heap.size ≤ q → A q := fun q h => by rw [← hAe]; exact Or.inr h
  have hS : va_S A s.heap s.heap [] := va_S.rf
  have hl := lv_entry ([.ref h0, .int 288]) (n := 2) (Nat.le_of_ble_eq_true rfl)
  rw [lg_entry_eq]
  generalize (lg_sl ([.ref h0, .int 288]) ++ List.replicate (2 - (lg_sl ([.ref h0, .int 288])).length) Slot.unset).toArray = ls at hl ⊢
  have hl : lv_has ls 2 [(0, .ref h0), (1, .int 288)] := hl
  refine lv_aload_n hx hb mj_d7_0 rfl (lv_at hl 0 rfl) ?_
  refine W.objInit hx hb hown (hts _ (mj_g (mm_tb1 (j := 235) rfl))) (hts _ mj_oi) (hts _ mj_ob) rfl (by rw [hml]; exact hl.1) rfl mj_d7_1 (Nat.le_of_ble_eq_true rfl) (Nat.le_of_ble_eq_true rfl) ?_
  refine W.eq (g2 := F0 m 4 ls []) rfl ?_
  refine lv_aload_n hx hb mj_d7_4 rfl (lv_at hl 0 rfl) ?_
  refine lv_bipush (v := 21) hx hb mj_d7_5 (by decide +kernel) ?_
  refine mj_newi hx hb hts hK hP hD hS hA (N := 21) (by decide +kernel) (by decide +kernel) (by decide +kernel) (Nat.le_of_ble_eq_true rfl) (Nat.le_of_ble_eq_true rfl) mj_d7_7 (fun q7 H hP hD hS => ?_)
  have hP : va_P D mm_cl [(h0, .inr (7, [.null, .null, .null, .null, .int 0, .int 0])), (q7, .inl (cs.1, 21, .inl (fun _ => 0)))] H := hP
  have hD : va_D A [(h0, .inr (7, [.null, .null, .null, .null, .int 0, .int 0])), (q7, .inl (cs.1, 21, .inl (fun _ => 0)))] := hD
  refine W.widen (k := 1) (n := 21) (Nat.le_of_ble_eq_true rfl) (Nat.le_of_ble_eq_true rfl) ?_
  refine mj_put (ci := 7) hx hb hts hown hK hP hD hS 0 rfl 2 (by decide +kernel) (by decide +kernel) hin rfl rfl (Nat.le_of_ble_eq_true rfl) mj_d7_9 (fun H locs hP hD hS => ?_)
  have hP : va_P D mm_cl [(h0, .inr (7, [.null, .null, .ref q7, .null, .int 0, .int 0])), (q7, .inl (cs.1, 21, .inl (fun _ => 0)))] H := hP
  have hD : va_D A [(h0, .inr (7, [.null, .null, .ref q7, .null, .int 0, .int 0])), (q7, .inl (cs.1, 21, .inl (fun _ => 0)))] := hD
  refine lv_aload_n hx hb mj_d7_12 rfl (lv_at hl 0 rfl) ?_
  refine lv_bipush (v := 21) hx hb mj_d7_13 (by decide +kernel) ?_
  refine mj_newi hx hb hts hK hP hD hS hA (N := 21) (by decide +kernel) (by decide +kernel) (by decide +kernel) (Nat.le_of_ble_eq_true rfl) (Nat.le_of_ble_eq_true rfl) mj_d7_15 (fun q15 H hP hD hS => ?_)
  have hP : va_P D mm_cl [(h0, .inr (7, [.null, .null, .ref q7, .null, .int 0, .int 0])), (q7, .inl (cs.1, 21, .inl (fun _ => 0))), (q15, .inl (cs.1, 21, .inl (fun _ => 0)))] H := hP
  have hD : va_D A [(h0, .inr (7, [.null, .null, .ref q7, .null, .int 0, .int 0])), (q7, .inl (cs.1, 21, .inl (fun _ => 0))), (q15, .inl (cs.1, 21, .inl (fun _ => 0)))] := hD
  refine W.widen (k := 2) (n := 42) (Nat.le_of_ble_eq_true rfl) (Nat.le_of_ble_eq_true rfl) ?_
  refine mj_put (ci := 7) hx hb hts hown hK hP hD hS 0 rfl 3 (by decide +kernel) (by decide +kernel) hin rfl rfl (Nat.le_of_ble_eq_true rfl) mj_d7_17 (fun H locs hP hD hS => ?_)
  have hP : va_P D mm_cl [(h0, .inr (7, [.null, .null, .ref q7, .ref q15, .int 0, .int 0])), (q7, .inl (cs.1, 21, .inl (fun _ => 0))), (q15, .inl (cs.1, 21, .inl (fun _ => 0)))] H := hP
  have hD : va_D A [(h0, .inr (7, [.null, .null, .ref q7, .ref q15, .int 0, .int 0])), (q7, .inl (cs.1, 21, .inl (fun _ => 0))), (q15, .inl (cs.1, 21, .inl (fun _ => 0)))] := hD
  refine lv_aload_n hx hb mj_d7_20 rfl (lv_at hl 0 rfl) ?_
  refine lv_iload_n hx hb mj_d7_21 rfl (lv_at hl 1 rfl) ?_
  refine mj_newi hx hb hts hK hP hD hS hA (N := 288) (by decide +kernel) (by decide +kernel) (by decide +kernel) (Nat.le_of_ble_eq_true rfl) (Nat.le_of_ble_eq_true rfl) mj_d7_22 (fun q22 H hP hD hS => ?_)
  have hP : va_P D mm_cl [(h0, .inr (7, [.null, .null, .ref q7, .ref q15, .int 0, .int 0])), (q7, .inl (cs.1, 21, .inl (fun _ => 0))), (q15, .inl (cs.1, 21, .inl (fun _ => 0))), (q22, .inl (cs.1, 288, .inl (fun _ => 0)))] H := hP
  have hD : va_D A [(h0, .inr (7, [.null, .null, .ref q7, .ref q15, .int 0, .int 0])), (q7, .inl (cs.1, 21, .inl (fun _ => 0))), (q15, .inl (cs.1, 21, .inl (fun _ => 0))), (q22, .inl (cs.1, 288, .inl (fun _ => 0)))] := hD
  refine W.widen (k := 3) (n := 330) (Nat.le_of_ble_eq_true rfl) (Nat.le_of_ble_eq_true rfl) ?_
  refine mj_put (ci := 7) hx hb hts hown hK hP hD hS 0 rfl 0 (by decide +kernel) (by decide +kernel) hin rfl rfl (Nat.le_of_ble_eq_true rfl) mj_d7_24 (fun H locs hP hD hS => ?_)
  have hP : va_P D mm_cl [(h0, .inr (7, [.ref q22, .null, .ref q7, .ref q15, .int 0, .int 0])), (q7, .inl (cs.1, 21, .inl (fun _ => 0))), (q15, .inl (cs.1, 21, .inl (fun _ => 0))), (q22, .inl (cs.1, 288, .inl (fun _ => 0)))] H := hP
  have hD : va_D A [(h0, .inr (7, [.ref q22, .null, .ref q7, .ref q15, .int 0, .int 0])), (q7, .inl (cs.1, 21, .inl (fun _ => 0))), (q15, .inl (cs.1, 21, .inl (fun _ => 0))), (q22, .inl (cs.1, 288, .inl (fun _ => 0)))] := hD
  refine lv_aload_n hx hb mj_d7_27 rfl (lv_at hl 0 rfl) ?_
  refine lv_iload_n hx hb mj_d7_28 rfl (lv_at hl 1 rfl) ?_
  refine mj_newi hx hb hts hK hP hD hS hA (N := 288) (by decide +kernel) (by decide +kernel) (by decide +kernel) (Nat.le_of_ble_eq_true rfl) (Nat.le_of_ble_eq_true rfl) mj_d7_29 (fun q29 H hP hD hS => ?_)
  have hP : va_P D mm_cl [(h0, .inr (7, [.ref q22, .null, .ref q7, .ref q15, .int 0, .int 0])), (q7, .inl (cs.1, 21, .inl (fun _ => 0))), (q15, .inl (cs.1, 21, .inl (fun _ => 0))), (q22, .inl (cs.1, 288, .inl (fun _ => 0))), (q29, .inl (cs.1, 288, .inl (fun _ => 0)))] H := hP
  have hD : va_D A [(h0, .inr (7, [.ref q22, .null, .ref q7, .ref q15, .int 0, .int 0])), (q7, .inl (cs.1, 21, .inl (fun _ => 0))), (q15, .inl (cs.1, 21, .inl (fun _ => 0))), (q22, .inl (cs.1, 288, .inl (fun _ => 0))), (q29, .inl (cs.1, 288, .inl (fun _ => 0)))] := hD
  refine W.widen (k := 4) (n := 618) (Nat.le_of_ble_eq_true rfl) (Nat.le_of_ble_eq_true rfl) ?_
  refine mj_put (ci := 7) hx hb hts hown hK hP hD hS 0 rfl 1 (by decide +kernel) (by decide +kernel) hin rfl rfl (Nat.le_of_ble_eq_true rfl) mj_d7_31 (fun H locs hP hD hS => ?_)
  have hP : va_P D mm_cl [(h0, .inr (7, [.ref q22, .ref q29, .ref q7, .ref q15, .int 0, .int 0])), (q7, .inl (cs.1, 21, .inl (fun _ => 0))), (q15, .inl (cs.1, 21, .inl (fun _ => 0))), (q22, .inl (cs.1, 288, .inl (fun _ => 0))), (q29, .inl (cs.1, 288, .inl (fun _ => 0)))] H := hP
  have hD : va_D A [(h0, .inr (7, [.ref q22, .ref q29, .ref q7, .ref q15, .int 0, .int 0])), (q7, .inl (cs.1, 21, .inl (fun _ => 0))), (q15, .inl (cs.1, 21, .inl (fun _ => 0))), (q22, .inl (cs.1, 288, .inl (fun _ => 0))), (q29, .inl (cs.1, 288, .inl (fun _ => 0)))] := hD
  exact W.vret hx hb hr (fun t ht hW => ⟨⟨_, rfl, ⟨q7, q15, q22, q29, rfl⟩, by rw [ht]; exact hP, va_K.moved hW.alike hK, hD⟩, hS.F ht⟩) hS.2.2 mj_d7_34
set_option maxHeartbeats 4000000 in
set_option maxRecDepth 100000 in
theorem mj_k_codes_32 (l : Launch) (D : va_G) (cs : mm_C) (r h0 : Nat) : mj_Met l ⟨"PlainPacks$Codes", "<init>", "(I)V"⟩ prog_4_method_1_code 2 1 12 D cs r [.ref h0, .int 32] [(h0, .inr (7, [.null, .null, .null, .null, .int 0, .int 0]))] 4 106 (fun w => ∃ q7 q15 q22 q29 : Nat, w = [(h0, .inr (7, [.ref q22, .ref q29, .ref q7, .ref q15, .int 0, .int 0])), (q7, .inl (cs.1, 21, .inl (fun _ => 0))), (q15, .inl (cs.1, 21, .inl (fun _ => 0))), (q22, .inl (cs.1, 32, .inl (fun _ => 0))), (q29, .inl (cs.1, 32, .inl (fun _ => 0)))]) := by
  intro sz
  refine Met.ofW (cc := prog_4_method_1_code) (maxL := 2) (ret := none) (by decide) rfl ?_
  intro p e s m args below meth c s₁ B hml hv
  obtain ⟨rfl, hsz, hP, hK, hD0, hE⟩ := hv
  have hx := B.exec
  have hb := B.bytes
  have hr := B.returns
  have hts0 := atoms_spec B.pre
  have hts : ∀ w ∈ mj_tb, w.before _ s = true := fun w hw => hts0 w (List.mem_cons_of_mem _ hw)
  have hown : s.vm.findClass (mm_cn 7) = some m.cls := findClass_of_methodNamed B.named
  have hlocks := B.notSynchronized
  have hin : meth.name = "<init>" := (name_of_methodNamed B.named B.method).1
  subst hsz
  have hD := hD0.self (sz := s.heap.size)
  generalize hAe : va_A [(h0, .inr (7, [.null, .null, .null, .null, .int 0, .int 0]))] s.heap.size = A at hD hE ⊢
  have hA : ∀ q : Nat, s.heap.size ≤ q → A q := fun q h => by rw [← hAe]; exact Or.inr h
  have hS : va_S A s.heap s.heap [] := va_S.rf
  have hl := lv_entry ([.ref h0, .int 32]) (n := 2) (Nat.le_of_ble_eq_true rfl)
  rw [lg_entry_eq]
  generalize (lg_sl ([.ref h0, .int 32]) ++ List.replicate (2 - (lg_sl ([.ref h0, .int 32])).length) Slot.unset).toArray = ls at hl ⊢
  have hl : lv_has ls 2 [(0, .ref h0), (1, .int 32)] := hl
  refine lv_aload_n hx hb mj_d7_0 rfl (lv_at hl 0 rfl) ?_
  refine W.objInit hx hb hown (hts _ (mj_g (mm_tb1 (j := 235) rfl))) (hts _ mj_oi) (hts _ mj_ob) rfl (by rw [hml]; exact hl.1) rfl mj_d7_1 (Nat.le_of_ble_eq_true rfl) (Nat.le_of_ble_eq_true rfl) ?_
  refine W.eq (g2 := F0 m 4 ls []) rfl ?_
  refine lv_aload_n hx hb mj_d7_4 rfl (lv_at hl 0 rfl) ?_
  refine lv_bipush (v := 21) hx hb mj_d7_5 (by decide +kernel) ?_
  refine mj_newi hx hb hts hK hP hD hS hA (N := 21) (by decide +kernel) (by decide +kernel) (by decide +kernel) (Nat.le_of_ble_eq_true rfl) (Nat.le_of_ble_eq_true rfl) mj_d7_7 (fun q7 H hP hD hS => ?_)
  have hP : va_P D mm_cl [(h0, .inr (7, [.null, .null, .null, .null, .int 0, .int 0])), (q7, .inl (cs.1, 21, .inl (fun _ => 0)))] H := hP
  have hD : va_D A [(h0, .inr (7, [.null, .null, .null, .null, .int 0, .int 0])), (q7, .inl (cs.1, 21, .inl (fun _ => 0)))] := hD
  refine W.widen (k := 1) (n := 21) (Nat.le_of_ble_eq_true rfl) (Nat.le_of_ble_eq_true rfl) ?_
  refine mj_put (ci := 7) hx hb hts hown hK hP hD hS 0 rfl 2 (by decide +kernel) (by decide +kernel) hin rfl rfl (Nat.le_of_ble_eq_true rfl) mj_d7_9 (fun H locs hP hD hS => ?_)
  have hP : va_P D mm_cl [(h0, .inr (7, [.null, .null, .ref q7, .null, .int 0, .int 0])), (q7, .inl (cs.1, 21, .inl (fun _ => 0)))] H := hP
  have hD : va_D A [(h0, .inr (7, [.null, .null, .ref q7, .null, .int 0, .int 0])), (q7, .inl (cs.1, 21, .inl (fun _ => 0)))] := hD
  refine lv_aload_n hx hb mj_d7_12 rfl (lv_at hl 0 rfl) ?_
  refine lv_bipush (v := 21) hx hb mj_d7_13 (by decide +kernel) ?_
  refine mj_newi hx hb hts hK hP hD hS hA (N := 21) (by decide +kernel) (by decide +kernel) (by decide +kernel) (Nat.le_of_ble_eq_true rfl) (Nat.le_of_ble_eq_true rfl) mj_d7_15 (fun q15 H hP hD hS => ?_)
  have hP : va_P D mm_cl [(h0, .inr (7, [.null, .null, .ref q7, .null, .int 0, .int 0])), (q7, .inl (cs.1, 21, .inl (fun _ => 0))), (q15, .inl (cs.1, 21, .inl (fun _ => 0)))] H := hP
  have hD : va_D A [(h0, .inr (7, [.null, .null, .ref q7, .null, .int 0, .int 0])), (q7, .inl (cs.1, 21, .inl (fun _ => 0))), (q15, .inl (cs.1, 21, .inl (fun _ => 0)))] := hD
  refine W.widen (k := 2) (n := 42) (Nat.le_of_ble_eq_true rfl) (Nat.le_of_ble_eq_true rfl) ?_
  refine mj_put (ci := 7) hx hb hts hown hK hP hD hS 0 rfl 3 (by decide +kernel) (by decide +kernel) hin rfl rfl (Nat.le_of_ble_eq_true rfl) mj_d7_17 (fun H locs hP hD hS => ?_)
  have hP : va_P D mm_cl [(h0, .inr (7, [.null, .null, .ref q7, .ref q15, .int 0, .int 0])), (q7, .inl (cs.1, 21, .inl (fun _ => 0))), (q15, .inl (cs.1, 21, .inl (fun _ => 0)))] H := hP
  have hD : va_D A [(h0, .inr (7, [.null, .null, .ref q7, .ref q15, .int 0, .int 0])), (q7, .inl (cs.1, 21, .inl (fun _ => 0))), (q15, .inl (cs.1, 21, .inl (fun _ => 0)))] := hD
  refine lv_aload_n hx hb mj_d7_20 rfl (lv_at hl 0 rfl) ?_
  refine lv_iload_n hx hb mj_d7_21 rfl (lv_at hl 1 rfl) ?_
  refine mj_newi hx hb hts hK hP hD hS hA (N := 32) (by decide +kernel) (by decide +kernel) (by decide +kernel) (Nat.le_of_ble_eq_true rfl) (Nat.le_of_ble_eq_true rfl) mj_d7_22 (fun q22 H hP hD hS => ?_)
  have hP : va_P D mm_cl [(h0, .inr (7, [.null, .null, .ref q7, .ref q15, .int 0, .int 0])), (q7, .inl (cs.1, 21, .inl (fun _ => 0))), (q15, .inl (cs.1, 21, .inl (fun _ => 0))), (q22, .inl (cs.1, 32, .inl (fun _ => 0)))] H := hP
  have hD : va_D A [(h0, .inr (7, [.null, .null, .ref q7, .ref q15, .int 0, .int 0])), (q7, .inl (cs.1, 21, .inl (fun _ => 0))), (q15, .inl (cs.1, 21, .inl (fun _ => 0))), (q22, .inl (cs.1, 32, .inl (fun _ => 0)))] := hD
  refine W.widen (k := 3) (n := 74) (Nat.le_of_ble_eq_true rfl) (Nat.le_of_ble_eq_true rfl) ?_
  refine mj_put (ci := 7) hx hb hts hown hK hP hD hS 0 rfl 0 (by decide +kernel) (by decide +kernel) hin rfl rfl (Nat.le_of_ble_eq_true rfl) mj_d7_24 (fun H locs hP hD hS => ?_)
  have hP : va_P D mm_cl [(h0, .inr (7, [.ref q22, .null, .ref q7, .ref q15, .int 0, .int 0])), (q7, .inl (cs.1, 21, .inl (fun _ => 0))), (q15, .inl (cs.1, 21, .inl (fun _ => 0))), (q22, .inl (cs.1, 32, .inl (fun _ => 0)))] H := hP
  have hD : va_D A [(h0, .inr (7, [.ref q22, .null, .ref q7, .ref q15, .int 0, .int 0])), (q7, .inl (cs.1, 21, .inl (fun _ => 0))), (q15, .inl (cs.1, 21, .inl (fun _ => 0))), (q22, .inl (cs.1, 32, .inl (fun _ => 0)))] := hD
  refine lv_aload_n hx hb mj_d7_27 rfl (lv_at hl 0 rfl) ?_
  refine lv_iload_n hx hb mj_d7_28 rfl (lv_at hl 1 rfl) ?_
  refine mj_newi hx hb hts hK hP hD hS hA (N := 32) (by decide +kernel) (by decide +kernel) (by decide +kernel) (Nat.le_of_ble_eq_true rfl) (Nat.le_of_ble_eq_true rfl) mj_d7_29 (fun q29 H hP hD hS => ?_)
  have hP : va_P D mm_cl [(h0, .inr (7, [.ref q22, .null, .ref q7, .ref q15, .int 0, .int 0])), (q7, .inl (cs.1, 21, .inl (fun _ => 0))), (q15, .inl (cs.1, 21, .inl (fun _ => 0))), (q22, .inl (cs.1, 32, .inl (fun _ => 0))), (q29, .inl (cs.1, 32, .inl (fun _ => 0)))] H := hP
  have hD : va_D A [(h0, .inr (7, [.ref q22, .null, .ref q7, .ref q15, .int 0, .int 0])), (q7, .inl (cs.1, 21, .inl (fun _ => 0))), (q15, .inl (cs.1, 21, .inl (fun _ => 0))), (q22, .inl (cs.1, 32, .inl (fun _ => 0))), (q29, .inl (cs.1, 32, .inl (fun _ => 0)))] := hD
  refine W.widen (k := 4) (n := 106) (Nat.le_of_ble_eq_true rfl) (Nat.le_of_ble_eq_true rfl) ?_
  refine mj_put (ci := 7) hx hb hts hown hK hP hD hS 0 rfl 1 (by decide +kernel) (by decide +kernel) hin rfl rfl (Nat.le_of_ble_eq_true rfl) mj_d7_31 (fun H locs hP hD hS => ?_)
  have hP : va_P D mm_cl [(h0, .inr (7, [.ref q22, .ref q29, .ref q7, .ref q15, .int 0, .int 0])), (q7, .inl (cs.1, 21, .inl (fun _ => 0))), (q15, .inl (cs.1, 21, .inl (fun _ => 0))), (q22, .inl (cs.1, 32, .inl (fun _ => 0))), (q29, .inl (cs.1, 32, .inl (fun _ => 0)))] H := hP
  have hD : va_D A [(h0, .inr (7, [.ref q22, .ref q29, .ref q7, .ref q15, .int 0, .int 0])), (q7, .inl (cs.1, 21, .inl (fun _ => 0))), (q15, .inl (cs.1, 21, .inl (fun _ => 0))), (q22, .inl (cs.1, 32, .inl (fun _ => 0))), (q29, .inl (cs.1, 32, .inl (fun _ => 0)))] := hD
  exact W.vret hx hb hr (fun t ht hW => ⟨⟨_, rfl, ⟨q7, q15, q22, q29, rfl⟩, by rw [ht]; exact hP, va_K.moved hW.alike hK, hD⟩, hS.F ht⟩) hS.2.2 mj_d7_34
set_option maxHeartbeats 4000000 in
set_option maxRecDepth 100000 in
theorem mj_k_codes_19 (l : Launch) (D : va_G) (cs : mm_C) (r h0 : Nat) : mj_Met l ⟨"PlainPacks$Codes", "<init>", "(I)V"⟩ prog_4_method_1_code 2 1 12 D cs r [.ref h0, .int 19] [(h0, .inr (7, [.null, .null, .null, .null, .int 0, .int 0]))] 4 80 (fun w => ∃ q7 q15 q22 q29 : Nat, w = [(h0, .inr (7, [.ref q22, .ref q29, .ref q7, .ref q15, .int 0, .int 0])), (q7, .inl (cs.1, 21, .inl (fun _ => 0))), (q15, .inl (cs.1, 21, .inl (fun _ => 0))), (q22, .inl (cs.1, 19, .inl (fun _ => 0))), (q29, .inl (cs.1, 19, .inl (fun _ => 0)))]) := by
  intro sz
  refine Met.ofW (cc := prog_4_method_1_code) (maxL := 2) (ret := none) (by decide) rfl ?_
  intro p e s m args below meth c s₁ B hml hv
  obtain ⟨rfl, hsz, hP, hK, hD0, hE⟩ := hv
  have hx := B.exec
  have hb := B.bytes
  have hr := B.returns
  have hts0 := atoms_spec B.pre
  have hts : ∀ w ∈ mj_tb, w.before _ s = true := fun w hw => hts0 w (List.mem_cons_of_mem _ hw)
  have hown : s.vm.findClass (mm_cn 7) = some m.cls := findClass_of_methodNamed B.named
  have hlocks := B.notSynchronized
  have hin : meth.name = "<init>" := (name_of_methodNamed B.named B.method).1
  subst hsz
  have hD := hD0.self (sz := s.heap.size)
  generalize hAe : va_A [(h0, .inr (7, [.null, .null, .null, .null, .int 0, .int 0]))] s.heap.size = A at hD hE ⊢
  have hA : ∀ q : Nat, s.heap.size ≤ q → A q := fun q h => by rw [← hAe]; exact Or.inr h
  have hS : va_S A s.heap s.heap [] := va_S.rf
  have hl := lv_entry ([.ref h0, .int 19]) (n := 2) (Nat.le_of_ble_eq_true rfl)
  rw [lg_entry_eq]
  generalize (lg_sl ([.ref h0, .int 19]) ++ List.replicate (2 - (lg_sl ([.ref h0, .int 19])).length) Slot.unset).toArray = ls at hl ⊢
  have hl : lv_has ls 2 [(0, .ref h0), (1, .int 19)] := hl
  refine lv_aload_n hx hb mj_d7_0 rfl (lv_at hl 0 rfl) ?_
  refine W.objInit hx hb hown (hts _ (mj_g (mm_tb1 (j := 235) rfl))) (hts _ mj_oi) (hts _ mj_ob) rfl (by rw [hml]; exact hl.1) rfl mj_d7_1 (Nat.le_of_ble_eq_true rfl) (Nat.le_of_ble_eq_true rfl) ?_
  refine W.eq (g2 := F0 m 4 ls []) rfl ?_
  refine lv_aload_n hx hb mj_d7_4 rfl (lv_at hl 0 rfl) ?_
  refine lv_bipush (v := 21) hx hb mj_d7_5 (by decide +kernel) ?_
  refine mj_newi hx hb hts hK hP hD hS hA (N := 21) (by decide +kernel) (by decide +kernel) (by decide +kernel) (Nat.le_of_ble_eq_true rfl) (Nat.le_of_ble_eq_true rfl) mj_d7_7 (fun q7 H hP hD hS => ?_)
  have hP : va_P D mm_cl [(h0, .inr (7, [.null, .null, .null, .null, .int 0, .int 0])), (q7, .inl (cs.1, 21, .inl (fun _ => 0)))] H := hP
  have hD : va_D A [(h0, .inr (7, [.null, .null, .null, .null, .int 0, .int 0])), (q7, .inl (cs.1, 21, .inl (fun _ => 0)))] := hD
  refine W.widen (k := 1) (n := 21) (Nat.le_of_ble_eq_true rfl) (Nat.le_of_ble_eq_true rfl) ?_
  refine mj_put (ci := 7) hx hb hts hown hK hP hD hS 0 rfl 2 (by decide +kernel) (by decide +kernel) hin rfl rfl (Nat.le_of_ble_eq_true rfl) mj_d7_9 (fun H locs hP hD hS => ?_)
  have hP : va_P D mm_cl [(h0, .inr (7, [.null, .null, .ref q7, .null, .int 0, .int 0])), (q7, .inl (cs.1, 21, .inl (fun _ => 0)))] H := hP
  have hD : va_D A [(h0, .inr (7, [.null, .null, .ref q7, .null, .int 0, .int 0])), (q7, .inl (cs.1, 21, .inl (fun _ => 0)))] := hD
  refine lv_aload_n hx hb mj_d7_12 rfl (lv_at hl 0 rfl) ?_
  refine lv_bipush (v := 21) hx hb mj_d7_13 (by decide +kernel) ?_
  refine mj_newi hx hb hts hK hP hD hS hA (N := 21) (by decide +kernel) (by decide +kernel) (by decide +kernel) (Nat.le_of_ble_eq_true rfl) (Nat.le_of_ble_eq_true rfl) mj_d7_15 (fun q15 H hP hD hS => ?_)
  have hP : va_P D mm_cl [(h0, .inr (7, [.null, .null, .ref q7, .null, .int 0, .int 0])), (q7, .inl (cs.1, 21, .inl (fun _ => 0))), (q15, .inl (cs.1, 21, .inl (fun _ => 0)))] H := hP
  have hD : va_D A [(h0, .inr (7, [.null, .null, .ref q7, .null, .int 0, .int 0])), (q7, .inl (cs.1, 21, .inl (fun _ => 0))), (q15, .inl (cs.1, 21, .inl (fun _ => 0)))] := hD
  refine W.widen (k := 2) (n := 42) (Nat.le_of_ble_eq_true rfl) (Nat.le_of_ble_eq_true rfl) ?_
  refine mj_put (ci := 7) hx hb hts hown hK hP hD hS 0 rfl 3 (by decide +kernel) (by decide +kernel) hin rfl rfl (Nat.le_of_ble_eq_true rfl) mj_d7_17 (fun H locs hP hD hS => ?_)
  have hP : va_P D mm_cl [(h0, .inr (7, [.null, .null, .ref q7, .ref q15, .int 0, .int 0])), (q7, .inl (cs.1, 21, .inl (fun _ => 0))), (q15, .inl (cs.1, 21, .inl (fun _ => 0)))] H := hP
  have hD : va_D A [(h0, .inr (7, [.null, .null, .ref q7, .ref q15, .int 0, .int 0])), (q7, .inl (cs.1, 21, .inl (fun _ => 0))), (q15, .inl (cs.1, 21, .inl (fun _ => 0)))] := hD
  refine lv_aload_n hx hb mj_d7_20 rfl (lv_at hl 0 rfl) ?_
  refine lv_iload_n hx hb mj_d7_21 rfl (lv_at hl 1 rfl) ?_
  refine mj_newi hx hb hts hK hP hD hS hA (N := 19) (by decide +kernel) (by decide +kernel) (by decide +kernel) (Nat.le_of_ble_eq_true rfl) (Nat.le_of_ble_eq_true rfl) mj_d7_22 (fun q22 H hP hD hS => ?_)
  have hP : va_P D mm_cl [(h0, .inr (7, [.null, .null, .ref q7, .ref q15, .int 0, .int 0])), (q7, .inl (cs.1, 21, .inl (fun _ => 0))), (q15, .inl (cs.1, 21, .inl (fun _ => 0))), (q22, .inl (cs.1, 19, .inl (fun _ => 0)))] H := hP
  have hD : va_D A [(h0, .inr (7, [.null, .null, .ref q7, .ref q15, .int 0, .int 0])), (q7, .inl (cs.1, 21, .inl (fun _ => 0))), (q15, .inl (cs.1, 21, .inl (fun _ => 0))), (q22, .inl (cs.1, 19, .inl (fun _ => 0)))] := hD
  refine W.widen (k := 3) (n := 61) (Nat.le_of_ble_eq_true rfl) (Nat.le_of_ble_eq_true rfl) ?_
  refine mj_put (ci := 7) hx hb hts hown hK hP hD hS 0 rfl 0 (by decide +kernel) (by decide +kernel) hin rfl rfl (Nat.le_of_ble_eq_true rfl) mj_d7_24 (fun H locs hP hD hS => ?_)
  have hP : va_P D mm_cl [(h0, .inr (7, [.ref q22, .null, .ref q7, .ref q15, .int 0, .int 0])), (q7, .inl (cs.1, 21, .inl (fun _ => 0))), (q15, .inl (cs.1, 21, .inl (fun _ => 0))), (q22, .inl (cs.1, 19, .inl (fun _ => 0)))] H := hP
  have hD : va_D A [(h0, .inr (7, [.ref q22, .null, .ref q7, .ref q15, .int 0, .int 0])), (q7, .inl (cs.1, 21, .inl (fun _ => 0))), (q15, .inl (cs.1, 21, .inl (fun _ => 0))), (q22, .inl (cs.1, 19, .inl (fun _ => 0)))] := hD
  refine lv_aload_n hx hb mj_d7_27 rfl (lv_at hl 0 rfl) ?_
  refine lv_iload_n hx hb mj_d7_28 rfl (lv_at hl 1 rfl) ?_
  refine mj_newi hx hb hts hK hP hD hS hA (N := 19) (by decide +kernel) (by decide +kernel) (by decide +kernel) (Nat.le_of_ble_eq_true rfl) (Nat.le_of_ble_eq_true rfl) mj_d7_29 (fun q29 H hP hD hS => ?_)
  have hP : va_P D mm_cl [(h0, .inr (7, [.ref q22, .null, .ref q7, .ref q15, .int 0, .int 0])), (q7, .inl (cs.1, 21, .inl (fun _ => 0))), (q15, .inl (cs.1, 21, .inl (fun _ => 0))), (q22, .inl (cs.1, 19, .inl (fun _ => 0))), (q29, .inl (cs.1, 19, .inl (fun _ => 0)))] H := hP
  have hD : va_D A [(h0, .inr (7, [.ref q22, .null, .ref q7, .ref q15, .int 0, .int 0])), (q7, .inl (cs.1, 21, .inl (fun _ => 0))), (q15, .inl (cs.1, 21, .inl (fun _ => 0))), (q22, .inl (cs.1, 19, .inl (fun _ => 0))), (q29, .inl (cs.1, 19, .inl (fun _ => 0)))] := hD
  refine W.widen (k := 4) (n := 80) (Nat.le_of_ble_eq_true rfl) (Nat.le_of_ble_eq_true rfl) ?_
  refine mj_put (ci := 7) hx hb hts hown hK hP hD hS 0 rfl 1 (by decide +kernel) (by decide +kernel) hin rfl rfl (Nat.le_of_ble_eq_true rfl) mj_d7_31 (fun H locs hP hD hS => ?_)
  have hP : va_P D mm_cl [(h0, .inr (7, [.ref q22, .ref q29, .ref q7, .ref q15, .int 0, .int 0])), (q7, .inl (cs.1, 21, .inl (fun _ => 0))), (q15, .inl (cs.1, 21, .inl (fun _ => 0))), (q22, .inl (cs.1, 19, .inl (fun _ => 0))), (q29, .inl (cs.1, 19, .inl (fun _ => 0)))] H := hP
  have hD : va_D A [(h0, .inr (7, [.ref q22, .ref q29, .ref q7, .ref q15, .int 0, .int 0])), (q7, .inl (cs.1, 21, .inl (fun _ => 0))), (q15, .inl (cs.1, 21, .inl (fun _ => 0))), (q22, .inl (cs.1, 19, .inl (fun _ => 0))), (q29, .inl (cs.1, 19, .inl (fun _ => 0)))] := hD
  exact W.vret hx hb hr (fun t ht hW => ⟨⟨_, rfl, ⟨q7, q15, q22, q29, rfl⟩, by rw [ht]; exact hP, va_K.moved hW.alike hK, hD⟩, hS.F ht⟩) hS.2.2 mj_d7_34
set_option maxHeartbeats 4000000 in
set_option maxRecDepth 100000 in
theorem mj_k_codes_258 (l : Launch) (D : va_G) (cs : mm_C) (r h0 : Nat) : mj_Met l ⟨"PlainPacks$Codes", "<init>", "(I)V"⟩ prog_4_method_1_code 2 1 12 D cs r [.ref h0, .int 258] [(h0, .inr (7, [.null, .null, .null, .null, .int 0, .int 0]))] 4 558 (fun w => ∃ q7 q15 q22 q29 : Nat, w = [(h0, .inr (7, [.ref q22, .ref q29, .ref q7, .ref q15, .int 0, .int 0])), (q7, .inl (cs.1, 21, .inl (fun _ => 0))), (q15, .inl (cs.1, 21, .inl (fun _ => 0))), (q22, .inl (cs.1, 258, .inl (fun _ => 0))), (q29, .inl (cs.1, 258, .inl (fun _ => 0)))]) := by
  intro sz
  refine Met.ofW (cc := prog_4_method_1_code) (maxL := 2) (ret := none) (by decide) rfl ?_
  intro p e s m args below meth c s₁ B hml hv
  obtain ⟨rfl, hsz, hP, hK, hD0, hE⟩ := hv
  have hx := B.exec
  have hb := B.bytes
  have hr := B.returns
  have hts0 := atoms_spec B.pre
  have hts : ∀ w ∈ mj_tb, w.before _ s = true := fun w hw => hts0 w (List.mem_cons_of_mem _ hw)
  have hown : s.vm.findClass (mm_cn 7) = some m.cls := findClass_of_methodNamed B.named
  have hlocks := B.notSynchronized
  have hin : meth.name = "<init>" := (name_of_methodNamed B.named B.method).1
  subst hsz
  have hD := hD0.self (sz := s.heap.size)
  generalize hAe : va_A [(h0, .inr (7, [.null, .null, .null, .null, .int 0, .int 0]))] s.heap.size = A at hD hE ⊢
  have hA : ∀ q : Nat, s.heap.size ≤ q → A q := fun q h => by rw [← hAe]; exact Or.inr h
  have hS : va_S A s.heap s.heap [] := va_S.rf
  have hl := lv_entry ([.ref h0, .int 258]) (n := 2) (Nat.le_of_ble_eq_true rfl)
  rw [lg_entry_eq]
  generalize (lg_sl ([.ref h0, .int 258]) ++ List.replicate (2 - (lg_sl ([.ref h0, .int 258])).length) Slot.unset).toArray = ls at hl ⊢
  have hl : lv_has ls 2 [(0, .ref h0), (1, .int 258)] := hl
  refine lv_aload_n hx hb mj_d7_0 rfl (lv_at hl 0 rfl) ?_
  refine W.objInit hx hb hown (hts _ (mj_g (mm_tb1 (j := 235) rfl))) (hts _ mj_oi) (hts _ mj_ob) rfl (by rw [hml]; exact hl.1) rfl mj_d7_1 (Nat.le_of_ble_eq_true rfl) (Nat.le_of_ble_eq_true rfl) ?_
  refine W.eq (g2 := F0 m 4 ls []) rfl ?_
  refine lv_aload_n hx hb mj_d7_4 rfl (lv_at hl 0 rfl) ?_
  refine lv_bipush (v := 21) hx hb mj_d7_5 (by decide +kernel) ?_
  refine mj_newi hx hb hts hK hP hD hS hA (N := 21) (by decide +kernel) (by decide +kernel) (by decide +kernel) (Nat.le_of_ble_eq_true rfl) (Nat.le_of_ble_eq_true rfl) mj_d7_7 (fun q7 H hP hD hS => ?_)
  have hP : va_P D mm_cl [(h0, .inr (7, [.null, .null, .null, .null, .int 0, .int 0])), (q7, .inl (cs.1, 21, .inl (fun _ => 0)))] H := hP
  have hD : va_D A [(h0, .inr (7, [.null, .null, .null, .null, .int 0, .int 0])), (q7, .inl (cs.1, 21, .inl (fun _ => 0)))] := hD
  refine W.widen (k := 1) (n := 21) (Nat.le_of_ble_eq_true rfl) (Nat.le_of_ble_eq_true rfl) ?_
  refine mj_put (ci := 7) hx hb hts hown hK hP hD hS 0 rfl 2 (by decide +kernel) (by decide +kernel) hin rfl rfl (Nat.le_of_ble_eq_true rfl) mj_d7_9 (fun H locs hP hD hS => ?_)
  have hP : va_P D mm_cl [(h0, .inr (7, [.null, .null, .ref q7, .null, .int 0, .int 0])), (q7, .inl (cs.1, 21, .inl (fun _ => 0)))] H := hP
  have hD : va_D A [(h0, .inr (7, [.null, .null, .ref q7, .null, .int 0, .int 0])), (q7, .inl (cs.1, 21, .inl (fun _ => 0)))] := hD
  refine lv_aload_n hx hb mj_d7_12 rfl (lv_at hl 0 rfl) ?_
  refine lv_bipush (v := 21) hx hb mj_d7_13 (by decide +kernel) ?_
  refine mj_newi hx hb hts hK hP hD hS hA (N := 21) (by decide +kernel) (by decide +kernel) (by decide +kernel) (Nat.le_of_ble_eq_true rfl) (Nat.le_of_ble_eq_true rfl) mj_d7_15 (fun q15 H hP hD hS => ?_)
  have hP : va_P D mm_cl [(h0, .inr (7, [.null, .null, .ref q7, .null, .int 0, .int 0])), (q7, .inl (cs.1, 21, .inl (fun _ => 0))), (q15, .inl (cs.1, 21, .inl (fun _ => 0)))] H := hP
  have hD : va_D A [(h0, .inr (7, [.null, .null, .ref q7, .null, .int 0, .int 0])), (q7, .inl (cs.1, 21, .inl (fun _ => 0))), (q15, .inl (cs.1, 21, .inl (fun _ => 0)))] := hD
  refine W.widen (k := 2) (n := 42) (Nat.le_of_ble_eq_true rfl) (Nat.le_of_ble_eq_true rfl) ?_
  refine mj_put (ci := 7) hx hb hts hown hK hP hD hS 0 rfl 3 (by decide +kernel) (by decide +kernel) hin rfl rfl (Nat.le_of_ble_eq_true rfl) mj_d7_17 (fun H locs hP hD hS => ?_)
  have hP : va_P D mm_cl [(h0, .inr (7, [.null, .null, .ref q7, .ref q15, .int 0, .int 0])), (q7, .inl (cs.1, 21, .inl (fun _ => 0))), (q15, .inl (cs.1, 21, .inl (fun _ => 0)))] H := hP
  have hD : va_D A [(h0, .inr (7, [.null, .null, .ref q7, .ref q15, .int 0, .int 0])), (q7, .inl (cs.1, 21, .inl (fun _ => 0))), (q15, .inl (cs.1, 21, .inl (fun _ => 0)))] := hD
  refine lv_aload_n hx hb mj_d7_20 rfl (lv_at hl 0 rfl) ?_
  refine lv_iload_n hx hb mj_d7_21 rfl (lv_at hl 1 rfl) ?_
  refine mj_newi hx hb hts hK hP hD hS hA (N := 258) (by decide +kernel) (by decide +kernel) (by decide +kernel) (Nat.le_of_ble_eq_true rfl) (Nat.le_of_ble_eq_true rfl) mj_d7_22 (fun q22 H hP hD hS => ?_)
  have hP : va_P D mm_cl [(h0, .inr (7, [.null, .null, .ref q7, .ref q15, .int 0, .int 0])), (q7, .inl (cs.1, 21, .inl (fun _ => 0))), (q15, .inl (cs.1, 21, .inl (fun _ => 0))), (q22, .inl (cs.1, 258, .inl (fun _ => 0)))] H := hP
  have hD : va_D A [(h0, .inr (7, [.null, .null, .ref q7, .ref q15, .int 0, .int 0])), (q7, .inl (cs.1, 21, .inl (fun _ => 0))), (q15, .inl (cs.1, 21, .inl (fun _ => 0))), (q22, .inl (cs.1, 258, .inl (fun _ => 0)))] := hD
  refine W.widen (k := 3) (n := 300) (Nat.le_of_ble_eq_true rfl) (Nat.le_of_ble_eq_true rfl) ?_
  refine mj_put (ci := 7) hx hb hts hown hK hP hD hS 0 rfl 0 (by decide +kernel) (by decide +kernel) hin rfl rfl (Nat.le_of_ble_eq_true rfl) mj_d7_24 (fun H locs hP hD hS => ?_)
  have hP : va_P D mm_cl [(h0, .inr (7, [.ref q22, .null, .ref q7, .ref q15, .int 0, .int 0])), (q7, .inl (cs.1, 21, .inl (fun _ => 0))), (q15, .inl (cs.1, 21, .inl (fun _ => 0))), (q22, .inl (cs.1, 258, .inl (fun _ => 0)))] H := hP
  have hD : va_D A [(h0, .inr (7, [.ref q22, .null, .ref q7, .ref q15, .int 0, .int 0])), (q7, .inl (cs.1, 21, .inl (fun _ => 0))), (q15, .inl (cs.1, 21, .inl (fun _ => 0))), (q22, .inl (cs.1, 258, .inl (fun _ => 0)))] := hD
  refine lv_aload_n hx hb mj_d7_27 rfl (lv_at hl 0 rfl) ?_
  refine lv_iload_n hx hb mj_d7_28 rfl (lv_at hl 1 rfl) ?_
  refine mj_newi hx hb hts hK hP hD hS hA (N := 258) (by decide +kernel) (by decide +kernel) (by decide +kernel) (Nat.le_of_ble_eq_true rfl) (Nat.le_of_ble_eq_true rfl) mj_d7_29 (fun q29 H hP hD hS => ?_)
  have hP : va_P D mm_cl [(h0, .inr (7, [.ref q22, .null, .ref q7, .ref q15, .int 0, .int 0])), (q7, .inl (cs.1, 21, .inl (fun _ => 0))), (q15, .inl (cs.1, 21, .inl (fun _ => 0))), (q22, .inl (cs.1, 258, .inl (fun _ => 0))), (q29, .inl (cs.1, 258, .inl (fun _ => 0)))] H := hP
  have hD : va_D A [(h0, .inr (7, [.ref q22, .null, .ref q7, .ref q15, .int 0, .int 0])), (q7, .inl (cs.1, 21, .inl (fun _ => 0))), (q15, .inl (cs.1, 21, .inl (fun _ => 0))), (q22, .inl (cs.1, 258, .inl (fun _ => 0))), (q29, .inl (cs.1, 258, .inl (fun _ => 0)))] := hD
  refine W.widen (k := 4) (n := 558) (Nat.le_of_ble_eq_true rfl) (Nat.le_of_ble_eq_true rfl) ?_
  refine mj_put (ci := 7) hx hb hts hown hK hP hD hS 0 rfl 1 (by decide +kernel) (by decide +kernel) hin rfl rfl (Nat.le_of_ble_eq_true rfl) mj_d7_31 (fun H locs hP hD hS => ?_)
  have hP : va_P D mm_cl [(h0, .inr (7, [.ref q22, .ref q29, .ref q7, .ref q15, .int 0, .int 0])), (q7, .inl (cs.1, 21, .inl (fun _ => 0))), (q15, .inl (cs.1, 21, .inl (fun _ => 0))), (q22, .inl (cs.1, 258, .inl (fun _ => 0))), (q29, .inl (cs.1, 258, .inl (fun _ => 0)))] H := hP
  have hD : va_D A [(h0, .inr (7, [.ref q22, .ref q29, .ref q7, .ref q15, .int 0, .int 0])), (q7, .inl (cs.1, 21, .inl (fun _ => 0))), (q15, .inl (cs.1, 21, .inl (fun _ => 0))), (q22, .inl (cs.1, 258, .inl (fun _ => 0))), (q29, .inl (cs.1, 258, .inl (fun _ => 0)))] := hD
  exact W.vret hx hb hr (fun t ht hW => ⟨⟨_, rfl, ⟨q7, q15, q22, q29, rfl⟩, by rw [ht]; exact hP, va_K.moved hW.alike hK, hD⟩, hS.F ht⟩) hS.2.2 mj_d7_34
set_option maxHeartbeats 4000000 in
set_option maxRecDepth 100000 in
theorem mj_k_source (l : Launch) (D : va_G) (cs : mm_C) (r h0 : Nat) : mj_Met l ⟨"PlainPacks$Source", "<init>", "()V"⟩ prog_9_method_1_code 1 1 12 D cs r [.ref h0] [(h0, .inr (1, [.null, .int 0, .int 0, .int 0, .int 0, .int 0, .int 0]))] 1 10000 (fun w => ∃ q8 : Nat, w = [(h0, .inr (1, [.ref q8, .int 0, .int 0, .int 0, .int 0, .int 0, .int 0])), (q8, .inl (cs.1, 10000, .inl (fun _ => 0)))]) := by
  intro sz
  refine Met.ofW (cc := prog_9_method_1_code) (maxL := 1) (ret := none) (by decide) rfl ?_
  intro p e s m args below meth c s₁ B hml hv
  obtain ⟨rfl, hsz, hP, hK, hD0, hE⟩ := hv
  have hx := B.exec
  have hb := B.bytes
  have hr := B.returns
  have hts0 := atoms_spec B.pre
  have hts : ∀ w ∈ mj_tb, w.before _ s = true := fun w hw => hts0 w (List.mem_cons_of_mem _ hw)
  have hown : s.vm.findClass (mm_cn 1) = some m.cls := findClass_of_methodNamed B.named
  have hlocks := B.notSynchronized
  have hin : meth.name = "<init>" := (name_of_methodNamed B.named B.method).1
  subst hsz
  have hD := hD0.self (sz := s.heap.size)
  generalize hAe : va_A [(h0, .inr (1, [.null, .int 0, .int 0, .int 0, .int 0, .int 0, .int 0]))] s.heap.size = A at hD hE ⊢
  have hA : ∀ q : Nat, s.heap.size ≤ q → A q := fun q h => by rw [← hAe]; exact Or.inr h
  have hS : va_S A s.heap s.heap [] := va_S.rf
  have hl := lv_entry ([.ref h0]) (n := 1) (Nat.le_of_ble_eq_true rfl)
  rw [lg_entry_eq]
  generalize (lg_sl ([.ref h0]) ++ List.replicate (1 - (lg_sl ([.ref h0])).length) Slot.unset).toArray = ls at hl ⊢
  have hl : lv_has ls 1 [(0, .ref h0)] := hl
  refine lv_aload_n hx hb mj_d1_0 rfl (lv_at hl 0 rfl) ?_
  refine W.objInit hx hb hown (hts _ (mj_g (mm_tb1 (j := 37) rfl))) (hts _ mj_oi) (hts _ mj_ob) rfl (by rw [hml]; exact hl.1) rfl mj_d1_1 (Nat.le_of_ble_eq_true rfl) (Nat.le_of_ble_eq_true rfl) ?_
  refine W.eq (g2 := F0 m 4 ls []) rfl ?_
  refine lv_aload_n hx hb mj_d1_4 rfl (lv_at hl 0 rfl) ?_
  refine lv_sipush (v := 10000) hx hb mj_d1_5 (by decide +kernel) ?_
  refine mj_newi hx hb hts hK hP hD hS hA (N := 10000) (by decide +kernel) (by decide +kernel) (by decide +kernel) (Nat.le_of_ble_eq_true rfl) (Nat.le_of_ble_eq_true rfl) mj_d1_8 (fun q8 H hP hD hS => ?_)
  have hP : va_P D mm_cl [(h0, .inr (1, [.null, .int 0, .int 0, .int 0, .int 0, .int 0, .int 0])), (q8, .inl (cs.1, 10000, .inl (fun _ => 0)))] H := hP
  have hD : va_D A [(h0, .inr (1, [.null, .int 0, .int 0, .int 0, .int 0, .int 0, .int 0])), (q8, .inl (cs.1, 10000, .inl (fun _ => 0)))] := hD
  refine W.widen (k := 1) (n := 10000) (Nat.le_of_ble_eq_true rfl) (Nat.le_of_ble_eq_true rfl) ?_
  refine mj_put (ci := 1) hx hb hts hown hK hP hD hS 0 rfl 0 (by decide +kernel) (by decide +kernel) hin rfl rfl (Nat.le_of_ble_eq_true rfl) mj_d1_10 (fun H locs hP hD hS => ?_)
  have hP : va_P D mm_cl [(h0, .inr (1, [.ref q8, .int 0, .int 0, .int 0, .int 0, .int 0, .int 0])), (q8, .inl (cs.1, 10000, .inl (fun _ => 0)))] H := hP
  have hD : va_D A [(h0, .inr (1, [.ref q8, .int 0, .int 0, .int 0, .int 0, .int 0, .int 0])), (q8, .inl (cs.1, 10000, .inl (fun _ => 0)))] := hD
  exact W.vret hx hb hr (fun t ht hW => ⟨⟨_, rfl, ⟨q8, rfl⟩, by rw [ht]; exact hP, va_K.moved hW.alike hK, hD⟩, hS.F ht⟩) hS.2.2 mj_d1_13
set_option maxHeartbeats 4000000 in
set_option maxRecDepth 100000 in
theorem mj_k_sink (l : Launch) (D : va_G) (cs : mm_C) (r h0 : Nat) : mj_Met l ⟨"PlainPacks$Sink", "<init>", "()V"⟩ prog_7_method_1_code 1 1 12 D cs r [.ref h0] [(h0, .inr (2, [.null, .int 0, .int 0, .int 0, .int 0, .int 0, .int 0]))] 1 16384 (fun w => ∃ q8 : Nat, w = [(h0, .inr (2, [.ref q8, .int 0, .int 0, .int 0, .int 0, .int 0, .int 0])), (q8, .inl (cs.1, 16384, .inl (fun _ => 0)))]) := by
  intro sz
  refine Met.ofW (cc := prog_7_method_1_code) (maxL := 1) (ret := none) (by decide) rfl ?_
  intro p e s m args below meth c s₁ B hml hv
  obtain ⟨rfl, hsz, hP, hK, hD0, hE⟩ := hv
  have hx := B.exec
  have hb := B.bytes
  have hr := B.returns
  have hts0 := atoms_spec B.pre
  have hts : ∀ w ∈ mj_tb, w.before _ s = true := fun w hw => hts0 w (List.mem_cons_of_mem _ hw)
  have hown : s.vm.findClass (mm_cn 2) = some m.cls := findClass_of_methodNamed B.named
  have hlocks := B.notSynchronized
  have hin : meth.name = "<init>" := (name_of_methodNamed B.named B.method).1
  subst hsz
  have hD := hD0.self (sz := s.heap.size)
  generalize hAe : va_A [(h0, .inr (2, [.null, .int 0, .int 0, .int 0, .int 0, .int 0, .int 0]))] s.heap.size = A at hD hE ⊢
  have hA : ∀ q : Nat, s.heap.size ≤ q → A q := fun q h => by rw [← hAe]; exact Or.inr h
  have hS : va_S A s.heap s.heap [] := va_S.rf
  have hl := lv_entry ([.ref h0]) (n := 1) (Nat.le_of_ble_eq_true rfl)
  rw [lg_entry_eq]
  generalize (lg_sl ([.ref h0]) ++ List.replicate (1 - (lg_sl ([.ref h0])).length) Slot.unset).toArray = ls at hl ⊢
  have hl : lv_has ls 1 [(0, .ref h0)] := hl
  refine lv_aload_n hx hb mj_d2_0 rfl (lv_at hl 0 rfl) ?_
  refine W.objInit hx hb hown (hts _ (mj_g (mm_tb1 (j := 85) rfl))) (hts _ mj_oi) (hts _ mj_ob) rfl (by rw [hml]; exact hl.1) rfl mj_d2_1 (Nat.le_of_ble_eq_true rfl) (Nat.le_of_ble_eq_true rfl) ?_
  refine W.eq (g2 := F0 m 4 ls []) rfl ?_
  refine lv_aload_n hx hb mj_d2_4 rfl (lv_at hl 0 rfl) ?_
  refine lv_sipush (v := 16384) hx hb mj_d2_5 (by decide +kernel) ?_
  refine mj_newi hx hb hts hK hP hD hS hA (N := 16384) (by decide +kernel) (by decide +kernel) (by decide +kernel) (Nat.le_of_ble_eq_true rfl) (Nat.le_of_ble_eq_true rfl) mj_d2_8 (fun q8 H hP hD hS => ?_)
  have hP : va_P D mm_cl [(h0, .inr (2, [.null, .int 0, .int 0, .int 0, .int 0, .int 0, .int 0])), (q8, .inl (cs.1, 16384, .inl (fun _ => 0)))] H := hP
  have hD : va_D A [(h0, .inr (2, [.null, .int 0, .int 0, .int 0, .int 0, .int 0, .int 0])), (q8, .inl (cs.1, 16384, .inl (fun _ => 0)))] := hD
  refine W.widen (k := 1) (n := 16384) (Nat.le_of_ble_eq_true rfl) (Nat.le_of_ble_eq_true rfl) ?_
  refine mj_put (ci := 2) hx hb hts hown hK hP hD hS 0 rfl 0 (by decide +kernel) (by decide +kernel) hin rfl rfl (Nat.le_of_ble_eq_true rfl) mj_d2_10 (fun H locs hP hD hS => ?_)
  have hP : va_P D mm_cl [(h0, .inr (2, [.ref q8, .int 0, .int 0, .int 0, .int 0, .int 0, .int 0])), (q8, .inl (cs.1, 16384, .inl (fun _ => 0)))] H := hP
  have hD : va_D A [(h0, .inr (2, [.ref q8, .int 0, .int 0, .int 0, .int 0, .int 0, .int 0])), (q8, .inl (cs.1, 16384, .inl (fun _ => 0)))] := hD
  exact W.vret hx hb hr (fun t ht hW => ⟨⟨_, rfl, ⟨q8, rfl⟩, by rw [ht]; exact hP, va_K.moved hW.alike hK, hD⟩, hS.F ht⟩) hS.2.2 mj_d2_13
set_option maxHeartbeats 4000000 in
set_option maxRecDepth 100000 in
theorem mj_k_writer (l : Launch) (D : va_G) (cs : mm_C) (r h0 : Nat) : mj_Met l ⟨"PlainPacks$Writer", "<init>", "()V"⟩ prog_12_method_1_code 1 1 12 D cs r [.ref h0] [(h0, .inr (3, [.null, .int 0, .int 0, .int 0, .int 0, .int 0]))] 1 16384 (fun w => ∃ q8 : Nat, w = [(h0, .inr (3, [.ref q8, .int 0, .int 0, .int 0, .int 0, .int 0])), (q8, .inl (cs.1, 16384, .inl (fun _ => 0)))]) := by
  intro sz
  refine Met.ofW (cc := prog_12_method_1_code) (maxL := 1) (ret := none) (by decide) rfl ?_
  intro p e s m args below meth c s₁ B hml hv
  obtain ⟨rfl, hsz, hP, hK, hD0, hE⟩ := hv
  have hx := B.exec
  have hb := B.bytes
  have hr := B.returns
  have hts0 := atoms_spec B.pre
  have hts : ∀ w ∈ mj_tb, w.before _ s = true := fun w hw => hts0 w (List.mem_cons_of_mem _ hw)
  have hown : s.vm.findClass (mm_cn 3) = some m.cls := findClass_of_methodNamed B.named
  have hlocks := B.notSynchronized
  have hin : meth.name = "<init>" := (name_of_methodNamed B.named B.method).1
  subst hsz
  have hD := hD0.self (sz := s.heap.size)
  generalize hAe : va_A [(h0, .inr (3, [.null, .int 0, .int 0, .int 0, .int 0, .int 0]))] s.heap.size = A at hD hE ⊢
  have hA : ∀ q : Nat, s.heap.size ≤ q → A q := fun q h => by rw [← hAe]; exact Or.inr h
  have hS : va_S A s.heap s.heap [] := va_S.rf
  have hl := lv_entry ([.ref h0]) (n := 1) (Nat.le_of_ble_eq_true rfl)
  rw [lg_entry_eq]
  generalize (lg_sl ([.ref h0]) ++ List.replicate (1 - (lg_sl ([.ref h0])).length) Slot.unset).toArray = ls at hl ⊢
  have hl : lv_has ls 1 [(0, .ref h0)] := hl
  refine lv_aload_n hx hb mj_d3_0 rfl (lv_at hl 0 rfl) ?_
  refine W.objInit hx hb hown (hts _ (mj_g (mm_tb1 (j := 132) rfl))) (hts _ mj_oi) (hts _ mj_ob) rfl (by rw [hml]; exact hl.1) rfl mj_d3_1 (Nat.le_of_ble_eq_true rfl) (Nat.le_of_ble_eq_true rfl) ?_
  refine W.eq (g2 := F0 m 4 ls []) rfl ?_
  refine lv_aload_n hx hb mj_d3_4 rfl (lv_at hl 0 rfl) ?_
  refine lv_sipush (v := 16384) hx hb mj_d3_5 (by decide +kernel) ?_
  refine mj_newi hx hb hts hK hP hD hS hA (N := 16384) (by decide +kernel) (by decide +kernel) (by decide +kernel) (Nat.le_of_ble_eq_true rfl) (Nat.le_of_ble_eq_true rfl) mj_d3_8 (fun q8 H hP hD hS => ?_)
  have hP : va_P D mm_cl [(h0, .inr (3, [.null, .int 0, .int 0, .int 0, .int 0, .int 0])), (q8, .inl (cs.1, 16384, .inl (fun _ => 0)))] H := hP
  have hD : va_D A [(h0, .inr (3, [.null, .int 0, .int 0, .int 0, .int 0, .int 0])), (q8, .inl (cs.1, 16384, .inl (fun _ => 0)))] := hD
  refine W.widen (k := 1) (n := 16384) (Nat.le_of_ble_eq_true rfl) (Nat.le_of_ble_eq_true rfl) ?_
  refine mj_put (ci := 3) hx hb hts hown hK hP hD hS 0 rfl 0 (by decide +kernel) (by decide +kernel) hin rfl rfl (Nat.le_of_ble_eq_true rfl) mj_d3_10 (fun H locs hP hD hS => ?_)
  have hP : va_P D mm_cl [(h0, .inr (3, [.ref q8, .int 0, .int 0, .int 0, .int 0, .int 0])), (q8, .inl (cs.1, 16384, .inl (fun _ => 0)))] H := hP
  have hD : va_D A [(h0, .inr (3, [.ref q8, .int 0, .int 0, .int 0, .int 0, .int 0])), (q8, .inl (cs.1, 16384, .inl (fun _ => 0)))] := hD
  exact W.vret hx hb hr (fun t ht hW => ⟨⟨_, rfl, ⟨q8, rfl⟩, by rw [ht]; exact hP, va_K.moved hW.alike hK, hD⟩, hS.F ht⟩) hS.2.2 mj_d3_13
set_option maxHeartbeats 4000000 in
set_option maxRecDepth 100000 in
theorem mj_k_turnings (l : Launch) (D : va_G) (cs : mm_C) (r h0 : Nat) : mj_Met l ⟨"PlainPacks$Turnings", "<init>", "()V"⟩ prog_10_method_1_code 1 1 12 D cs r [.ref h0] [(h0, .inr (4, [.null, .null, .null, .null, .null, .int 0, .int 0]))] 5 62501 (fun w => ∃ q8 q17 q26 q35 q44 : Nat, w = [(h0, .inr (4, [.ref q8, .ref q17, .ref q26, .ref q35, .ref q44, .int 0, .int 0])), (q8, .inl (cs.1, 12500, .inl (fun _ => 0))), (q17, .inl (cs.1, 12500, .inl (fun _ => 0))), (q26, .inl (cs.1, 12500, .inl (fun _ => 0))), (q35, .inl (cs.1, 12500, .inl (fun _ => 0))), (q44, .inl (cs.1, 12501, .inl (fun _ => 0)))]) := by
  intro sz
  refine Met.ofW (cc := prog_10_method_1_code) (maxL := 1) (ret := none) (by decide) rfl ?_
  intro p e s m args below meth c s₁ B hml hv
  obtain ⟨rfl, hsz, hP, hK, hD0, hE⟩ := hv
  have hx := B.exec
  have hb := B.bytes
  have hr := B.returns
  have hts0 := atoms_spec B.pre
  have hts : ∀ w ∈ mj_tb, w.before _ s = true := fun w hw => hts0 w (List.mem_cons_of_mem _ hw)
  have hown : s.vm.findClass (mm_cn 4) = some m.cls := findClass_of_methodNamed B.named
  have hlocks := B.notSynchronized
  have hin : meth.name = "<init>" := (name_of_methodNamed B.named B.method).1
  subst hsz
  have hD := hD0.self (sz := s.heap.size)
  generalize hAe : va_A [(h0, .inr (4, [.null, .null, .null, .null, .null, .int 0, .int 0]))] s.heap.size = A at hD hE ⊢
  have hA : ∀ q : Nat, s.heap.size ≤ q → A q := fun q h => by rw [← hAe]; exact Or.inr h
  have hS : va_S A s.heap s.heap [] := va_S.rf
  have hl := lv_entry ([.ref h0]) (n := 1) (Nat.le_of_ble_eq_true rfl)
  rw [lg_entry_eq]
  generalize (lg_sl ([.ref h0]) ++ List.replicate (1 - (lg_sl ([.ref h0])).length) Slot.unset).toArray = ls at hl ⊢
  have hl : lv_has ls 1 [(0, .ref h0)] := hl
  refine lv_aload_n hx hb mj_d4_0 rfl (lv_at hl 0 rfl) ?_
  refine W.objInit hx hb hown (hts _ (mj_g (mm_tb1 (j := 164) rfl))) (hts _ mj_oi) (hts _ mj_ob) rfl (by rw [hml]; exact hl.1) rfl mj_d4_1 (Nat.le_of_ble_eq_true rfl) (Nat.le_of_ble_eq_true rfl) ?_
  refine W.eq (g2 := F0 m 4 ls []) rfl ?_
  refine lv_aload_n hx hb mj_d4_4 rfl (lv_at hl 0 rfl) ?_
  refine lv_sipush (v := 12500) hx hb mj_d4_5 (by decide +kernel) ?_
  refine mj_newi hx hb hts hK hP hD hS hA (N := 12500) (by decide +kernel) (by decide +kernel) (by decide +kernel) (Nat.le_of_ble_eq_true rfl) (Nat.le_of_ble_eq_true rfl) mj_d4_8 (fun q8 H hP hD hS => ?_)
  have hP : va_P D mm_cl [(h0, .inr (4, [.null, .null, .null, .null, .null, .int 0, .int 0])), (q8, .inl (cs.1, 12500, .inl (fun _ => 0)))] H := hP
  have hD : va_D A [(h0, .inr (4, [.null, .null, .null, .null, .null, .int 0, .int 0])), (q8, .inl (cs.1, 12500, .inl (fun _ => 0)))] := hD
  refine W.widen (k := 1) (n := 12500) (Nat.le_of_ble_eq_true rfl) (Nat.le_of_ble_eq_true rfl) ?_
  refine mj_put (ci := 4) hx hb hts hown hK hP hD hS 0 rfl 0 (by decide +kernel) (by decide +kernel) hin rfl rfl (Nat.le_of_ble_eq_true rfl) mj_d4_10 (fun H locs hP hD hS => ?_)
  have hP : va_P D mm_cl [(h0, .inr (4, [.ref q8, .null, .null, .null, .null, .int 0, .int 0])), (q8, .inl (cs.1, 12500, .inl (fun _ => 0)))] H := hP
  have hD : va_D A [(h0, .inr (4, [.ref q8, .null, .null, .null, .null, .int 0, .int 0])), (q8, .inl (cs.1, 12500, .inl (fun _ => 0)))] := hD
  refine lv_aload_n hx hb mj_d4_13 rfl (lv_at hl 0 rfl) ?_
  refine lv_sipush (v := 12500) hx hb mj_d4_14 (by decide +kernel) ?_
  refine mj_newi hx hb hts hK hP hD hS hA (N := 12500) (by decide +kernel) (by decide +kernel) (by decide +kernel) (Nat.le_of_ble_eq_true rfl) (Nat.le_of_ble_eq_true rfl) mj_d4_17 (fun q17 H hP hD hS => ?_)
  have hP : va_P D mm_cl [(h0, .inr (4, [.ref q8, .null, .null, .null, .null, .int 0, .int 0])), (q8, .inl (cs.1, 12500, .inl (fun _ => 0))), (q17, .inl (cs.1, 12500, .inl (fun _ => 0)))] H := hP
  have hD : va_D A [(h0, .inr (4, [.ref q8, .null, .null, .null, .null, .int 0, .int 0])), (q8, .inl (cs.1, 12500, .inl (fun _ => 0))), (q17, .inl (cs.1, 12500, .inl (fun _ => 0)))] := hD
  refine W.widen (k := 2) (n := 25000) (Nat.le_of_ble_eq_true rfl) (Nat.le_of_ble_eq_true rfl) ?_
  refine mj_put (ci := 4) hx hb hts hown hK hP hD hS 0 rfl 1 (by decide +kernel) (by decide +kernel) hin rfl rfl (Nat.le_of_ble_eq_true rfl) mj_d4_19 (fun H locs hP hD hS => ?_)
  have hP : va_P D mm_cl [(h0, .inr (4, [.ref q8, .ref q17, .null, .null, .null, .int 0, .int 0])), (q8, .inl (cs.1, 12500, .inl (fun _ => 0))), (q17, .inl (cs.1, 12500, .inl (fun _ => 0)))] H := hP
  have hD : va_D A [(h0, .inr (4, [.ref q8, .ref q17, .null, .null, .null, .int 0, .int 0])), (q8, .inl (cs.1, 12500, .inl (fun _ => 0))), (q17, .inl (cs.1, 12500, .inl (fun _ => 0)))] := hD
  refine lv_aload_n hx hb mj_d4_22 rfl (lv_at hl 0 rfl) ?_
  refine lv_sipush (v := 12500) hx hb mj_d4_23 (by decide +kernel) ?_
  refine mj_newi hx hb hts hK hP hD hS hA (N := 12500) (by decide +kernel) (by decide +kernel) (by decide +kernel) (Nat.le_of_ble_eq_true rfl) (Nat.le_of_ble_eq_true rfl) mj_d4_26 (fun q26 H hP hD hS => ?_)
  have hP : va_P D mm_cl [(h0, .inr (4, [.ref q8, .ref q17, .null, .null, .null, .int 0, .int 0])), (q8, .inl (cs.1, 12500, .inl (fun _ => 0))), (q17, .inl (cs.1, 12500, .inl (fun _ => 0))), (q26, .inl (cs.1, 12500, .inl (fun _ => 0)))] H := hP
  have hD : va_D A [(h0, .inr (4, [.ref q8, .ref q17, .null, .null, .null, .int 0, .int 0])), (q8, .inl (cs.1, 12500, .inl (fun _ => 0))), (q17, .inl (cs.1, 12500, .inl (fun _ => 0))), (q26, .inl (cs.1, 12500, .inl (fun _ => 0)))] := hD
  refine W.widen (k := 3) (n := 37500) (Nat.le_of_ble_eq_true rfl) (Nat.le_of_ble_eq_true rfl) ?_
  refine mj_put (ci := 4) hx hb hts hown hK hP hD hS 0 rfl 2 (by decide +kernel) (by decide +kernel) hin rfl rfl (Nat.le_of_ble_eq_true rfl) mj_d4_28 (fun H locs hP hD hS => ?_)
  have hP : va_P D mm_cl [(h0, .inr (4, [.ref q8, .ref q17, .ref q26, .null, .null, .int 0, .int 0])), (q8, .inl (cs.1, 12500, .inl (fun _ => 0))), (q17, .inl (cs.1, 12500, .inl (fun _ => 0))), (q26, .inl (cs.1, 12500, .inl (fun _ => 0)))] H := hP
  have hD : va_D A [(h0, .inr (4, [.ref q8, .ref q17, .ref q26, .null, .null, .int 0, .int 0])), (q8, .inl (cs.1, 12500, .inl (fun _ => 0))), (q17, .inl (cs.1, 12500, .inl (fun _ => 0))), (q26, .inl (cs.1, 12500, .inl (fun _ => 0)))] := hD
  refine lv_aload_n hx hb mj_d4_31 rfl (lv_at hl 0 rfl) ?_
  refine lv_sipush (v := 12500) hx hb mj_d4_32 (by decide +kernel) ?_
  refine mj_newi hx hb hts hK hP hD hS hA (N := 12500) (by decide +kernel) (by decide +kernel) (by decide +kernel) (Nat.le_of_ble_eq_true rfl) (Nat.le_of_ble_eq_true rfl) mj_d4_35 (fun q35 H hP hD hS => ?_)
  have hP : va_P D mm_cl [(h0, .inr (4, [.ref q8, .ref q17, .ref q26, .null, .null, .int 0, .int 0])), (q8, .inl (cs.1, 12500, .inl (fun _ => 0))), (q17, .inl (cs.1, 12500, .inl (fun _ => 0))), (q26, .inl (cs.1, 12500, .inl (fun _ => 0))), (q35, .inl (cs.1, 12500, .inl (fun _ => 0)))] H := hP
  have hD : va_D A [(h0, .inr (4, [.ref q8, .ref q17, .ref q26, .null, .null, .int 0, .int 0])), (q8, .inl (cs.1, 12500, .inl (fun _ => 0))), (q17, .inl (cs.1, 12500, .inl (fun _ => 0))), (q26, .inl (cs.1, 12500, .inl (fun _ => 0))), (q35, .inl (cs.1, 12500, .inl (fun _ => 0)))] := hD
  refine W.widen (k := 4) (n := 50000) (Nat.le_of_ble_eq_true rfl) (Nat.le_of_ble_eq_true rfl) ?_
  refine mj_put (ci := 4) hx hb hts hown hK hP hD hS 0 rfl 3 (by decide +kernel) (by decide +kernel) hin rfl rfl (Nat.le_of_ble_eq_true rfl) mj_d4_37 (fun H locs hP hD hS => ?_)
  have hP : va_P D mm_cl [(h0, .inr (4, [.ref q8, .ref q17, .ref q26, .ref q35, .null, .int 0, .int 0])), (q8, .inl (cs.1, 12500, .inl (fun _ => 0))), (q17, .inl (cs.1, 12500, .inl (fun _ => 0))), (q26, .inl (cs.1, 12500, .inl (fun _ => 0))), (q35, .inl (cs.1, 12500, .inl (fun _ => 0)))] H := hP
  have hD : va_D A [(h0, .inr (4, [.ref q8, .ref q17, .ref q26, .ref q35, .null, .int 0, .int 0])), (q8, .inl (cs.1, 12500, .inl (fun _ => 0))), (q17, .inl (cs.1, 12500, .inl (fun _ => 0))), (q26, .inl (cs.1, 12500, .inl (fun _ => 0))), (q35, .inl (cs.1, 12500, .inl (fun _ => 0)))] := hD
  refine lv_aload_n hx hb mj_d4_40 rfl (lv_at hl 0 rfl) ?_
  refine lv_sipush (v := 12501) hx hb mj_d4_41 (by decide +kernel) ?_
  refine mj_newi hx hb hts hK hP hD hS hA (N := 12501) (by decide +kernel) (by decide +kernel) (by decide +kernel) (Nat.le_of_ble_eq_true rfl) (Nat.le_of_ble_eq_true rfl) mj_d4_44 (fun q44 H hP hD hS => ?_)
  have hP : va_P D mm_cl [(h0, .inr (4, [.ref q8, .ref q17, .ref q26, .ref q35, .null, .int 0, .int 0])), (q8, .inl (cs.1, 12500, .inl (fun _ => 0))), (q17, .inl (cs.1, 12500, .inl (fun _ => 0))), (q26, .inl (cs.1, 12500, .inl (fun _ => 0))), (q35, .inl (cs.1, 12500, .inl (fun _ => 0))), (q44, .inl (cs.1, 12501, .inl (fun _ => 0)))] H := hP
  have hD : va_D A [(h0, .inr (4, [.ref q8, .ref q17, .ref q26, .ref q35, .null, .int 0, .int 0])), (q8, .inl (cs.1, 12500, .inl (fun _ => 0))), (q17, .inl (cs.1, 12500, .inl (fun _ => 0))), (q26, .inl (cs.1, 12500, .inl (fun _ => 0))), (q35, .inl (cs.1, 12500, .inl (fun _ => 0))), (q44, .inl (cs.1, 12501, .inl (fun _ => 0)))] := hD
  refine W.widen (k := 5) (n := 62501) (Nat.le_of_ble_eq_true rfl) (Nat.le_of_ble_eq_true rfl) ?_
  refine mj_put (ci := 4) hx hb hts hown hK hP hD hS 0 rfl 4 (by decide +kernel) (by decide +kernel) hin rfl rfl (Nat.le_of_ble_eq_true rfl) mj_d4_46 (fun H locs hP hD hS => ?_)
  have hP : va_P D mm_cl [(h0, .inr (4, [.ref q8, .ref q17, .ref q26, .ref q35, .ref q44, .int 0, .int 0])), (q8, .inl (cs.1, 12500, .inl (fun _ => 0))), (q17, .inl (cs.1, 12500, .inl (fun _ => 0))), (q26, .inl (cs.1, 12500, .inl (fun _ => 0))), (q35, .inl (cs.1, 12500, .inl (fun _ => 0))), (q44, .inl (cs.1, 12501, .inl (fun _ => 0)))] H := hP
  have hD : va_D A [(h0, .inr (4, [.ref q8, .ref q17, .ref q26, .ref q35, .ref q44, .int 0, .int 0])), (q8, .inl (cs.1, 12500, .inl (fun _ => 0))), (q17, .inl (cs.1, 12500, .inl (fun _ => 0))), (q26, .inl (cs.1, 12500, .inl (fun _ => 0))), (q35, .inl (cs.1, 12500, .inl (fun _ => 0))), (q44, .inl (cs.1, 12501, .inl (fun _ => 0)))] := hD
  exact W.vret hx hb hr (fun t ht hW => ⟨⟨_, rfl, ⟨q8, q17, q26, q35, q44, rfl⟩, by rw [ht]; exact hP, va_K.moved hW.alike hK, hD⟩, hS.F ht⟩) hS.2.2 mj_d4_49
set_option maxHeartbeats 4000000 in
set_option maxRecDepth 100000 in
theorem mj_k_finder (l : Launch) (D : va_G) (cs : mm_C) (r h0 : Nat) (h1 h2 : Nat) : mj_Met l ⟨"PlainPacks$Finder", "<init>", "(LPlainPacks$Source;)V"⟩ prog_5_method_1_code 2 1 12 D cs r [.ref h0, .ref h1] [(h0, .inr (5, [.int 0, .int 0, .null, .null, .null, .null, .int 0, .int 0])), (h1, .inr (1, [.ref h2, .int 0, .int 0, .int 0, .int 0, .int 0, .int 0]))] 2 14096 (fun w => ∃ q8 q17 : Nat, w = [(h0, .inr (5, [.int 0, .int 0, .ref q8, .ref q17, .ref h2, .ref h1, .int 0, .int 0])), (h1, .inr (1, [.ref h2, .int 0, .int 0, .int 0, .int 0, .int 0, .int 0])), (q8, .inl (cs.1, 4096, .inl (fun _ => 0))), (q17, .inl (cs.1, 10000, .inl (fun _ => 0)))]) := by
  intro sz
  refine Met.ofW (cc := prog_5_method_1_code) (maxL := 2) (ret := none) (by decide) rfl ?_
  intro p e s m args below meth c s₁ B hml hv
  obtain ⟨rfl, hsz, hP, hK, hD0, hE⟩ := hv
  have hx := B.exec
  have hb := B.bytes
  have hr := B.returns
  have hts0 := atoms_spec B.pre
  have hts : ∀ w ∈ mj_tb, w.before _ s = true := fun w hw => hts0 w (List.mem_cons_of_mem _ hw)
  have hown : s.vm.findClass (mm_cn 5) = some m.cls := findClass_of_methodNamed B.named
  have hlocks := B.notSynchronized
  have hin : meth.name = "<init>" := (name_of_methodNamed B.named B.method).1
  subst hsz
  have hD := hD0.self (sz := s.heap.size)
  generalize hAe : va_A [(h0, .inr (5, [.int 0, .int 0, .null, .null, .null, .null, .int 0, .int 0])), (h1, .inr (1, [.ref h2, .int 0, .int 0, .int 0, .int 0, .int 0, .int 0]))] s.heap.size = A at hD hE ⊢
  have hA : ∀ q : Nat, s.heap.size ≤ q → A q := fun q h => by rw [← hAe]; exact Or.inr h
  have hS : va_S A s.heap s.heap [] := va_S.rf
  have hl := lv_entry ([.ref h0, .ref h1]) (n := 2) (Nat.le_of_ble_eq_true rfl)
  rw [lg_entry_eq]
  generalize (lg_sl ([.ref h0, .ref h1]) ++ List.replicate (2 - (lg_sl ([.ref h0, .ref h1])).length) Slot.unset).toArray = ls at hl ⊢
  have hl : lv_has ls 2 [(0, .ref h0), (1, .ref h1)] := hl
  refine lv_aload_n hx hb mj_d5_0 rfl (lv_at hl 0 rfl) ?_
  refine W.objInit hx hb hown (hts _ (mj_g (mm_tb1 (j := 194) rfl))) (hts _ mj_oi) (hts _ mj_ob) rfl (by rw [hml]; exact hl.1) rfl mj_d5_1 (Nat.le_of_ble_eq_true rfl) (Nat.le_of_ble_eq_true rfl) ?_
  refine W.eq (g2 := F0 m 4 ls []) rfl ?_
  refine lv_aload_n hx hb mj_d5_4 rfl (lv_at hl 0 rfl) ?_
  refine lv_sipush (v := 4096) hx hb mj_d5_5 (by decide +kernel) ?_
  refine mj_newi hx hb hts hK hP hD hS hA (N := 4096) (by decide +kernel) (by decide +kernel) (by decide +kernel) (Nat.le_of_ble_eq_true rfl) (Nat.le_of_ble_eq_true rfl) mj_d5_8 (fun q8 H hP hD hS => ?_)
  have hP : va_P D mm_cl [(h0, .inr (5, [.int 0, .int 0, .null, .null, .null, .null, .int 0, .int 0])), (h1, .inr (1, [.ref h2, .int 0, .int 0, .int 0, .int 0, .int 0, .int 0])), (q8, .inl (cs.1, 4096, .inl (fun _ => 0)))] H := hP
  have hD : va_D A [(h0, .inr (5, [.int 0, .int 0, .null, .null, .null, .null, .int 0, .int 0])), (h1, .inr (1, [.ref h2, .int 0, .int 0, .int 0, .int 0, .int 0, .int 0])), (q8, .inl (cs.1, 4096, .inl (fun _ => 0)))] := hD
  refine W.widen (k := 1) (n := 4096) (Nat.le_of_ble_eq_true rfl) (Nat.le_of_ble_eq_true rfl) ?_
  refine mj_put (ci := 5) hx hb hts hown hK hP hD hS 0 rfl 2 (by decide +kernel) (by decide +kernel) hin rfl rfl (Nat.le_of_ble_eq_true rfl) mj_d5_10 (fun H locs hP hD hS => ?_)
  have hP : va_P D mm_cl [(h0, .inr (5, [.int 0, .int 0, .ref q8, .null, .null, .null, .int 0, .int 0])), (h1, .inr (1, [.ref h2, .int 0, .int 0, .int 0, .int 0, .int 0, .int 0])), (q8, .inl (cs.1, 4096, .inl (fun _ => 0)))] H := hP
  have hD : va_D A [(h0, .inr (5, [.int 0, .int 0, .ref q8, .null, .null, .null, .int 0, .int 0])), (h1, .inr (1, [.ref h2, .int 0, .int 0, .int 0, .int 0, .int 0, .int 0])), (q8, .inl (cs.1, 4096, .inl (fun _ => 0)))] := hD
  refine lv_aload_n hx hb mj_d5_13 rfl (lv_at hl 0 rfl) ?_
  refine lv_sipush (v := 10000) hx hb mj_d5_14 (by decide +kernel) ?_
  refine mj_newi hx hb hts hK hP hD hS hA (N := 10000) (by decide +kernel) (by decide +kernel) (by decide +kernel) (Nat.le_of_ble_eq_true rfl) (Nat.le_of_ble_eq_true rfl) mj_d5_17 (fun q17 H hP hD hS => ?_)
  have hP : va_P D mm_cl [(h0, .inr (5, [.int 0, .int 0, .ref q8, .null, .null, .null, .int 0, .int 0])), (h1, .inr (1, [.ref h2, .int 0, .int 0, .int 0, .int 0, .int 0, .int 0])), (q8, .inl (cs.1, 4096, .inl (fun _ => 0))), (q17, .inl (cs.1, 10000, .inl (fun _ => 0)))] H := hP
  have hD : va_D A [(h0, .inr (5, [.int 0, .int 0, .ref q8, .null, .null, .null, .int 0, .int 0])), (h1, .inr (1, [.ref h2, .int 0, .int 0, .int 0, .int 0, .int 0, .int 0])), (q8, .inl (cs.1, 4096, .inl (fun _ => 0))), (q17, .inl (cs.1, 10000, .inl (fun _ => 0)))] := hD
  refine W.widen (k := 2) (n := 14096) (Nat.le_of_ble_eq_true rfl) (Nat.le_of_ble_eq_true rfl) ?_
  refine mj_put (ci := 5) hx hb hts hown hK hP hD hS 0 rfl 3 (by decide +kernel) (by decide +kernel) hin rfl rfl (Nat.le_of_ble_eq_true rfl) mj_d5_19 (fun H locs hP hD hS => ?_)
  have hP : va_P D mm_cl [(h0, .inr (5, [.int 0, .int 0, .ref q8, .ref q17, .null, .null, .int 0, .int 0])), (h1, .inr (1, [.ref h2, .int 0, .int 0, .int 0, .int 0, .int 0, .int 0])), (q8, .inl (cs.1, 4096, .inl (fun _ => 0))), (q17, .inl (cs.1, 10000, .inl (fun _ => 0)))] H := hP
  have hD : va_D A [(h0, .inr (5, [.int 0, .int 0, .ref q8, .ref q17, .null, .null, .int 0, .int 0])), (h1, .inr (1, [.ref h2, .int 0, .int 0, .int 0, .int 0, .int 0, .int 0])), (q8, .inl (cs.1, 4096, .inl (fun _ => 0))), (q17, .inl (cs.1, 10000, .inl (fun _ => 0)))] := hD
  refine lv_aload_n hx hb mj_d5_22 rfl (lv_at hl 0 rfl) ?_
  refine lv_aload_n hx hb mj_d5_23 rfl (lv_at hl 1 rfl) ?_
  refine mj_put (ci := 5) hx hb hts hown hK hP hD hS 0 rfl 5 (by decide +kernel) (by decide +kernel) hin rfl rfl (Nat.le_of_ble_eq_true rfl) mj_d5_24 (fun H locs hP hD hS => ?_)
  have hP : va_P D mm_cl [(h0, .inr (5, [.int 0, .int 0, .ref q8, .ref q17, .null, .ref h1, .int 0, .int 0])), (h1, .inr (1, [.ref h2, .int 0, .int 0, .int 0, .int 0, .int 0, .int 0])), (q8, .inl (cs.1, 4096, .inl (fun _ => 0))), (q17, .inl (cs.1, 10000, .inl (fun _ => 0)))] H := hP
  have hD : va_D A [(h0, .inr (5, [.int 0, .int 0, .ref q8, .ref q17, .null, .ref h1, .int 0, .int 0])), (h1, .inr (1, [.ref h2, .int 0, .int 0, .int 0, .int 0, .int 0, .int 0])), (q8, .inl (cs.1, 4096, .inl (fun _ => 0))), (q17, .inl (cs.1, 10000, .inl (fun _ => 0)))] := hD
  refine lv_aload_n hx hb mj_d5_27 rfl (lv_at hl 0 rfl) ?_
  refine lv_aload_n hx hb mj_d5_28 rfl (lv_at hl 1 rfl) ?_
  refine mj_get (o := 5) (ci := 1) hx hb hts hown hK hP 1 rfl 0 (by decide +kernel) rfl mj_d5_29 ?_
  refine mj_put (ci := 5) hx hb hts hown hK hP hD hS 0 rfl 4 (by decide +kernel) (by decide +kernel) hin rfl rfl (Nat.le_of_ble_eq_true rfl) mj_d5_32 (fun H locs hP hD hS => ?_)
  have hP : va_P D mm_cl [(h0, .inr (5, [.int 0, .int 0, .ref q8, .ref q17, .ref h2, .ref h1, .int 0, .int 0])), (h1, .inr (1, [.ref h2, .int 0, .int 0, .int 0, .int 0, .int 0, .int 0])), (q8, .inl (cs.1, 4096, .inl (fun _ => 0))), (q17, .inl (cs.1, 10000, .inl (fun _ => 0)))] H := hP
  have hD : va_D A [(h0, .inr (5, [.int 0, .int 0, .ref q8, .ref q17, .ref h2, .ref h1, .int 0, .int 0])), (h1, .inr (1, [.ref h2, .int 0, .int 0, .int 0, .int 0, .int 0, .int 0])), (q8, .inl (cs.1, 4096, .inl (fun _ => 0))), (q17, .inl (cs.1, 10000, .inl (fun _ => 0)))] := hD
  exact W.vret hx hb hr (fun t ht hW => ⟨⟨_, rfl, ⟨q8, q17, rfl⟩, by rw [ht]; exact hP, va_K.moved hW.alike hK, hD⟩, hS.F ht⟩) hS.2.2 mj_d5_35
set_option maxHeartbeats 4000000 in
set_option maxRecDepth 100000 in
theorem mj_k_words (l : Launch) (D : va_G) (cs : mm_C) (r h0 : Nat) (h1 h2 h3 : Nat) : mj_Met l ⟨"PlainPacks$Words", "<init>", "(LPlainPacks$Source;LPlainPacks$Sink;LPlainPacks$Writer;)V"⟩ prog_11_method_1_code 4 1 12 D cs r [.ref h0, .ref h1, .ref h2, .ref h3] [(h0, .inr (8, [.null, .null, .null, .null, .null, .null, .null, .null, .int 0, .int 0, .int 0, .int 0, .int 0, .int 0, .int 0]))] 5 20480 (fun w => ∃ q8 q17 q26 q35 q44 : Nat, w = [(h0, .inr (8, [.ref h1, .ref h2, .ref h3, .ref q8, .ref q17, .ref q26, .ref q35, .ref q44, .int 0, .int 0, .int 0, .int 0, .int 0, .int 0, .int 0])), (q8, .inl (cs.1, 4096, .inl (fun _ => 0))), (q17, .inl (cs.1, 4096, .inl (fun _ => 0))), (q26, .inl (cs.1, 4096, .inl (fun _ => 0))), (q35, .inl (cs.1, 4096, .inl (fun _ => 0))), (q44, .inl (cs.1, 4096, .inl (fun _ => 0)))]) := by
  intro sz
  refine Met.ofW (cc := prog_11_method_1_code) (maxL := 4) (ret := none) (by decide) rfl ?_
  intro p e s m args below meth c s₁ B hml hv
  obtain ⟨rfl, hsz, hP, hK, hD0, hE⟩ := hv
  have hx := B.exec
  have hb := B.bytes
  have hr := B.returns
  have hts0 := atoms_spec B.pre
  have hts : ∀ w ∈ mj_tb, w.before _ s = true := fun w hw => hts0 w (List.mem_cons_of_mem _ hw)
  have hown : s.vm.findClass (mm_cn 8) = some m.cls := findClass_of_methodNamed B.named
  have hlocks := B.notSynchronized
  have hin : meth.name = "<init>" := (name_of_methodNamed B.named B.method).1
  subst hsz
  have hD := hD0.self (sz := s.heap.size)
  generalize hAe : va_A [(h0, .inr (8, [.null, .null, .null, .null, .null, .null, .null, .null, .int 0, .int 0, .int 0, .int 0, .int 0, .int 0, .int 0]))] s.heap.size = A at hD hE ⊢
  have hA : ∀ q : Nat, s.heap.size ≤ q → A q := fun q h => by rw [← hAe]; exact Or.inr h
  have hS : va_S A s.heap s.heap [] := va_S.rf
  have hl := lv_entry ([.ref h0, .ref h1, .ref h2, .ref h3]) (n := 4) (Nat.le_of_ble_eq_true rfl)
  rw [lg_entry_eq]
  generalize (lg_sl ([.ref h0, .ref h1, .ref h2, .ref h3]) ++ List.replicate (4 - (lg_sl ([.ref h0, .ref h1, .ref h2, .ref h3])).length) Slot.unset).toArray = ls at hl ⊢
  have hl : lv_has ls 4 [(0, .ref h0), (1, .ref h1), (2, .ref h2), (3, .ref h3)] := hl
  refine lv_aload_n hx hb mj_d8_0 rfl (lv_at hl 0 rfl) ?_
  refine W.objInit hx hb hown (hts _ (mj_g (mm_tb2 (j := 61) rfl))) (hts _ mj_oi) (hts _ mj_ob) rfl (by rw [hml]; exact hl.1) rfl mj_d8_1 (Nat.le_of_ble_eq_true rfl) (Nat.le_of_ble_eq_true rfl) ?_
  refine W.eq (g2 := F0 m 4 ls []) rfl ?_
  refine lv_aload_n hx hb mj_d8_4 rfl (lv_at hl 0 rfl) ?_
  refine lv_sipush (v := 4096) hx hb mj_d8_5 (by decide +kernel) ?_
  refine mj_newi hx hb hts hK hP hD hS hA (N := 4096) (by decide +kernel) (by decide +kernel) (by decide +kernel) (Nat.le_of_ble_eq_true rfl) (Nat.le_of_ble_eq_true rfl) mj_d8_8 (fun q8 H hP hD hS => ?_)
  have hP : va_P D mm_cl [(h0, .inr (8, [.null, .null, .null, .null, .null, .null, .null, .null, .int 0, .int 0, .int 0, .int 0, .int 0, .int 0, .int 0])), (q8, .inl (cs.1, 4096, .inl (fun _ => 0)))] H := hP
  have hD : va_D A [(h0, .inr (8, [.null, .null, .null, .null, .null, .null, .null, .null, .int 0, .int 0, .int 0, .int 0, .int 0, .int 0, .int 0])), (q8, .inl (cs.1, 4096, .inl (fun _ => 0)))] := hD
  refine W.widen (k := 1) (n := 4096) (Nat.le_of_ble_eq_true rfl) (Nat.le_of_ble_eq_true rfl) ?_
  refine mj_put (ci := 8) hx hb hts hown hK hP hD hS 0 rfl 3 (by decide +kernel) (by decide +kernel) hin rfl rfl (Nat.le_of_ble_eq_true rfl) mj_d8_10 (fun H locs hP hD hS => ?_)
  have hP : va_P D mm_cl [(h0, .inr (8, [.null, .null, .null, .ref q8, .null, .null, .null, .null, .int 0, .int 0, .int 0, .int 0, .int 0, .int 0, .int 0])), (q8, .inl (cs.1, 4096, .inl (fun _ => 0)))] H := hP
  have hD : va_D A [(h0, .inr (8, [.null, .null, .null, .ref q8, .null, .null, .null, .null, .int 0, .int 0, .int 0, .int 0, .int 0, .int 0, .int 0])), (q8, .inl (cs.1, 4096, .inl (fun _ => 0)))] := hD
  refine lv_aload_n hx hb mj_d8_13 rfl (lv_at hl 0 rfl) ?_
  refine lv_sipush (v := 4096) hx hb mj_d8_14 (by decide +kernel) ?_
  refine mj_newi hx hb hts hK hP hD hS hA (N := 4096) (by decide +kernel) (by decide +kernel) (by decide +kernel) (Nat.le_of_ble_eq_true rfl) (Nat.le_of_ble_eq_true rfl) mj_d8_17 (fun q17 H hP hD hS => ?_)
  have hP : va_P D mm_cl [(h0, .inr (8, [.null, .null, .null, .ref q8, .null, .null, .null, .null, .int 0, .int 0, .int 0, .int 0, .int 0, .int 0, .int 0])), (q8, .inl (cs.1, 4096, .inl (fun _ => 0))), (q17, .inl (cs.1, 4096, .inl (fun _ => 0)))] H := hP
  have hD : va_D A [(h0, .inr (8, [.null, .null, .null, .ref q8, .null, .null, .null, .null, .int 0, .int 0, .int 0, .int 0, .int 0, .int 0, .int 0])), (q8, .inl (cs.1, 4096, .inl (fun _ => 0))), (q17, .inl (cs.1, 4096, .inl (fun _ => 0)))] := hD
  refine W.widen (k := 2) (n := 8192) (Nat.le_of_ble_eq_true rfl) (Nat.le_of_ble_eq_true rfl) ?_
  refine mj_put (ci := 8) hx hb hts hown hK hP hD hS 0 rfl 4 (by decide +kernel) (by decide +kernel) hin rfl rfl (Nat.le_of_ble_eq_true rfl) mj_d8_19 (fun H locs hP hD hS => ?_)
  have hP : va_P D mm_cl [(h0, .inr (8, [.null, .null, .null, .ref q8, .ref q17, .null, .null, .null, .int 0, .int 0, .int 0, .int 0, .int 0, .int 0, .int 0])), (q8, .inl (cs.1, 4096, .inl (fun _ => 0))), (q17, .inl (cs.1, 4096, .inl (fun _ => 0)))] H := hP
  have hD : va_D A [(h0, .inr (8, [.null, .null, .null, .ref q8, .ref q17, .null, .null, .null, .int 0, .int 0, .int 0, .int 0, .int 0, .int 0, .int 0])), (q8, .inl (cs.1, 4096, .inl (fun _ => 0))), (q17, .inl (cs.1, 4096, .inl (fun _ => 0)))] := hD
  refine lv_aload_n hx hb mj_d8_22 rfl (lv_at hl 0 rfl) ?_
  refine lv_sipush (v := 4096) hx hb mj_d8_23 (by decide +kernel) ?_
  refine mj_newi hx hb hts hK hP hD hS hA (N := 4096) (by decide +kernel) (by decide +kernel) (by decide +kernel) (Nat.le_of_ble_eq_true rfl) (Nat.le_of_ble_eq_true rfl) mj_d8_26 (fun q26 H hP hD hS => ?_)
  have hP : va_P D mm_cl [(h0, .inr (8, [.null, .null, .null, .ref q8, .ref q17, .null, .null, .null, .int 0, .int 0, .int 0, .int 0, .int 0, .int 0, .int 0])), (q8, .inl (cs.1, 4096, .inl (fun _ => 0))), (q17, .inl (cs.1, 4096, .inl (fun _ => 0))), (q26, .inl (cs.1, 4096, .inl (fun _ => 0)))] H := hP
  have hD : va_D A [(h0, .inr (8, [.null, .null, .null, .ref q8, .ref q17, .null, .null, .null, .int 0, .int 0, .int 0, .int 0, .int 0, .int 0, .int 0])), (q8, .inl (cs.1, 4096, .inl (fun _ => 0))), (q17, .inl (cs.1, 4096, .inl (fun _ => 0))), (q26, .inl (cs.1, 4096, .inl (fun _ => 0)))] := hD
  refine W.widen (k := 3) (n := 12288) (Nat.le_of_ble_eq_true rfl) (Nat.le_of_ble_eq_true rfl) ?_
  refine mj_put (ci := 8) hx hb hts hown hK hP hD hS 0 rfl 5 (by decide +kernel) (by decide +kernel) hin rfl rfl (Nat.le_of_ble_eq_true rfl) mj_d8_28 (fun H locs hP hD hS => ?_)
  have hP : va_P D mm_cl [(h0, .inr (8, [.null, .null, .null, .ref q8, .ref q17, .ref q26, .null, .null, .int 0, .int 0, .int 0, .int 0, .int 0, .int 0, .int 0])), (q8, .inl (cs.1, 4096, .inl (fun _ => 0))), (q17, .inl (cs.1, 4096, .inl (fun _ => 0))), (q26, .inl (cs.1, 4096, .inl (fun _ => 0)))] H := hP
  have hD : va_D A [(h0, .inr (8, [.null, .null, .null, .ref q8, .ref q17, .ref q26, .null, .null, .int 0, .int 0, .int 0, .int 0, .int 0, .int 0, .int 0])), (q8, .inl (cs.1, 4096, .inl (fun _ => 0))), (q17, .inl (cs.1, 4096, .inl (fun _ => 0))), (q26, .inl (cs.1, 4096, .inl (fun _ => 0)))] := hD
  refine lv_aload_n hx hb mj_d8_31 rfl (lv_at hl 0 rfl) ?_
  refine lv_sipush (v := 4096) hx hb mj_d8_32 (by decide +kernel) ?_
  refine mj_newi hx hb hts hK hP hD hS hA (N := 4096) (by decide +kernel) (by decide +kernel) (by decide +kernel) (Nat.le_of_ble_eq_true rfl) (Nat.le_of_ble_eq_true rfl) mj_d8_35 (fun q35 H hP hD hS => ?_)
  have hP : va_P D mm_cl [(h0, .inr (8, [.null, .null, .null, .ref q8, .ref q17, .ref q26, .null, .null, .int 0, .int 0, .int 0, .int 0, .int 0, .int 0, .int 0])), (q8, .inl (cs.1, 4096, .inl (fun _ => 0))), (q17, .inl (cs.1, 4096, .inl (fun _ => 0))), (q26, .inl (cs.1, 4096, .inl (fun _ => 0))), (q35, .inl (cs.1, 4096, .inl (fun _ => 0)))] H := hP
  have hD : va_D A [(h0, .inr (8, [.null, .null, .null, .ref q8, .ref q17, .ref q26, .null, .null, .int 0, .int 0, .int 0, .int 0, .int 0, .int 0, .int 0])), (q8, .inl (cs.1, 4096, .inl (fun _ => 0))), (q17, .inl (cs.1, 4096, .inl (fun _ => 0))), (q26, .inl (cs.1, 4096, .inl (fun _ => 0))), (q35, .inl (cs.1, 4096, .inl (fun _ => 0)))] := hD
  refine W.widen (k := 4) (n := 16384) (Nat.le_of_ble_eq_true rfl) (Nat.le_of_ble_eq_true rfl) ?_
  refine mj_put (ci := 8) hx hb hts hown hK hP hD hS 0 rfl 6 (by decide +kernel) (by decide +kernel) hin rfl rfl (Nat.le_of_ble_eq_true rfl) mj_d8_37 (fun H locs hP hD hS => ?_)
  have hP : va_P D mm_cl [(h0, .inr (8, [.null, .null, .null, .ref q8, .ref q17, .ref q26, .ref q35, .null, .int 0, .int 0, .int 0, .int 0, .int 0, .int 0, .int 0])), (q8, .inl (cs.1, 4096, .inl (fun _ => 0))), (q17, .inl (cs.1, 4096, .inl (fun _ => 0))), (q26, .inl (cs.1, 4096, .inl (fun _ => 0))), (q35, .inl (cs.1, 4096, .inl (fun _ => 0)))] H := hP
  have hD : va_D A [(h0, .inr (8, [.null, .null, .null, .ref q8, .ref q17, .ref q26, .ref q35, .null, .int 0, .int 0, .int 0, .int 0, .int 0, .int 0, .int 0])), (q8, .inl (cs.1, 4096, .inl (fun _ => 0))), (q17, .inl (cs.1, 4096, .inl (fun _ => 0))), (q26, .inl (cs.1, 4096, .inl (fun _ => 0))), (q35, .inl (cs.1, 4096, .inl (fun _ => 0)))] := hD
  refine lv_aload_n hx hb mj_d8_40 rfl (lv_at hl 0 rfl) ?_
  refine lv_sipush (v := 4096) hx hb mj_d8_41 (by decide +kernel) ?_
  refine mj_newi hx hb hts hK hP hD hS hA (N := 4096) (by decide +kernel) (by decide +kernel) (by decide +kernel) (Nat.le_of_ble_eq_true rfl) (Nat.le_of_ble_eq_true rfl) mj_d8_44 (fun q44 H hP hD hS => ?_)
  have hP : va_P D mm_cl [(h0, .inr (8, [.null, .null, .null, .ref q8, .ref q17, .ref q26, .ref q35, .null, .int 0, .int 0, .int 0, .int 0, .int 0, .int 0, .int 0])), (q8, .inl (cs.1, 4096, .inl (fun _ => 0))), (q17, .inl (cs.1, 4096, .inl (fun _ => 0))), (q26, .inl (cs.1, 4096, .inl (fun _ => 0))), (q35, .inl (cs.1, 4096, .inl (fun _ => 0))), (q44, .inl (cs.1, 4096, .inl (fun _ => 0)))] H := hP
  have hD : va_D A [(h0, .inr (8, [.null, .null, .null, .ref q8, .ref q17, .ref q26, .ref q35, .null, .int 0, .int 0, .int 0, .int 0, .int 0, .int 0, .int 0])), (q8, .inl (cs.1, 4096, .inl (fun _ => 0))), (q17, .inl (cs.1, 4096, .inl (fun _ => 0))), (q26, .inl (cs.1, 4096, .inl (fun _ => 0))), (q35, .inl (cs.1, 4096, .inl (fun _ => 0))), (q44, .inl (cs.1, 4096, .inl (fun _ => 0)))] := hD
  refine W.widen (k := 5) (n := 20480) (Nat.le_of_ble_eq_true rfl) (Nat.le_of_ble_eq_true rfl) ?_
  refine mj_put (ci := 8) hx hb hts hown hK hP hD hS 0 rfl 7 (by decide +kernel) (by decide +kernel) hin rfl rfl (Nat.le_of_ble_eq_true rfl) mj_d8_46 (fun H locs hP hD hS => ?_)
  have hP : va_P D mm_cl [(h0, .inr (8, [.null, .null, .null, .ref q8, .ref q17, .ref q26, .ref q35, .ref q44, .int 0, .int 0, .int 0, .int 0, .int 0, .int 0, .int 0])), (q8, .inl (cs.1, 4096, .inl (fun _ => 0))), (q17, .inl (cs.1, 4096, .inl (fun _ => 0))), (q26, .inl (cs.1, 4096, .inl (fun _ => 0))), (q35, .inl (cs.1, 4096, .inl (fun _ => 0))), (q44, .inl (cs.1, 4096, .inl (fun _ => 0)))] H := hP
  have hD : va_D A [(h0, .inr (8, [.null, .null, .null, .ref q8, .ref q17, .ref q26, .ref q35, .ref q44, .int 0, .int 0, .int 0, .int 0, .int 0, .int 0, .int 0])), (q8, .inl (cs.1, 4096, .inl (fun _ => 0))), (q17, .inl (cs.1, 4096, .inl (fun _ => 0))), (q26, .inl (cs.1, 4096, .inl (fun _ => 0))), (q35, .inl (cs.1, 4096, .inl (fun _ => 0))), (q44, .inl (cs.1, 4096, .inl (fun _ => 0)))] := hD
  refine lv_aload_n hx hb mj_d8_49 rfl (lv_at hl 0 rfl) ?_
  refine lv_aload_n hx hb mj_d8_50 rfl (lv_at hl 1 rfl) ?_
  refine mj_put (ci := 8) hx hb hts hown hK hP hD hS 0 rfl 0 (by decide +kernel) (by decide +kernel) hin rfl rfl (Nat.le_of_ble_eq_true rfl) mj_d8_51 (fun H locs hP hD hS => ?_)
  have hP : va_P D mm_cl [(h0, .inr (8, [.ref h1, .null, .null, .ref q8, .ref q17, .ref q26, .ref q35, .ref q44, .int 0, .int 0, .int 0, .int 0, .int 0, .int 0, .int 0])), (q8, .inl (cs.1, 4096, .inl (fun _ => 0))), (q17, .inl (cs.1, 4096, .inl (fun _ => 0))), (q26, .inl (cs.1, 4096, .inl (fun _ => 0))), (q35, .inl (cs.1, 4096, .inl (fun _ => 0))), (q44, .inl (cs.1, 4096, .inl (fun _ => 0)))] H := hP
  have hD : va_D A [(h0, .inr (8, [.ref h1, .null, .null, .ref q8, .ref q17, .ref q26, .ref q35, .ref q44, .int 0, .int 0, .int 0, .int 0, .int 0, .int 0, .int 0])), (q8, .inl (cs.1, 4096, .inl (fun _ => 0))), (q17, .inl (cs.1, 4096, .inl (fun _ => 0))), (q26, .inl (cs.1, 4096, .inl (fun _ => 0))), (q35, .inl (cs.1, 4096, .inl (fun _ => 0))), (q44, .inl (cs.1, 4096, .inl (fun _ => 0)))] := hD
  refine lv_aload_n hx hb mj_d8_54 rfl (lv_at hl 0 rfl) ?_
  refine lv_aload_n hx hb mj_d8_55 rfl (lv_at hl 2 rfl) ?_
  refine mj_put (ci := 8) hx hb hts hown hK hP hD hS 0 rfl 1 (by decide +kernel) (by decide +kernel) hin rfl rfl (Nat.le_of_ble_eq_true rfl) mj_d8_56 (fun H locs hP hD hS => ?_)
  have hP : va_P D mm_cl [(h0, .inr (8, [.ref h1, .ref h2, .null, .ref q8, .ref q17, .ref q26, .ref q35, .ref q44, .int 0, .int 0, .int 0, .int 0, .int 0, .int 0, .int 0])), (q8, .inl (cs.1, 4096, .inl (fun _ => 0))), (q17, .inl (cs.1, 4096, .inl (fun _ => 0))), (q26, .inl (cs.1, 4096, .inl (fun _ => 0))), (q35, .inl (cs.1, 4096, .inl (fun _ => 0))), (q44, .inl (cs.1, 4096, .inl (fun _ => 0)))] H := hP
  have hD : va_D A [(h0, .inr (8, [.ref h1, .ref h2, .null, .ref q8, .ref q17, .ref q26, .ref q35, .ref q44, .int 0, .int 0, .int 0, .int 0, .int 0, .int 0, .int 0])), (q8, .inl (cs.1, 4096, .inl (fun _ => 0))), (q17, .inl (cs.1, 4096, .inl (fun _ => 0))), (q26, .inl (cs.1, 4096, .inl (fun _ => 0))), (q35, .inl (cs.1, 4096, .inl (fun _ => 0))), (q44, .inl (cs.1, 4096, .inl (fun _ => 0)))] := hD
  refine lv_aload_n hx hb mj_d8_59 rfl (lv_at hl 0 rfl) ?_
  refine lv_aload_n hx hb mj_d8_60 rfl (lv_at hl 3 rfl) ?_
  refine mj_put (ci := 8) hx hb hts hown hK hP hD hS 0 rfl 2 (by decide +kernel) (by decide +kernel) hin rfl rfl (Nat.le_of_ble_eq_true rfl) mj_d8_61 (fun H locs hP hD hS => ?_)
  have hP : va_P D mm_cl [(h0, .inr (8, [.ref h1, .ref h2, .ref h3, .ref q8, .ref q17, .ref q26, .ref q35, .ref q44, .int 0, .int 0, .int 0, .int 0, .int 0, .int 0, .int 0])), (q8, .inl (cs.1, 4096, .inl (fun _ => 0))), (q17, .inl (cs.1, 4096, .inl (fun _ => 0))), (q26, .inl (cs.1, 4096, .inl (fun _ => 0))), (q35, .inl (cs.1, 4096, .inl (fun _ => 0))), (q44, .inl (cs.1, 4096, .inl (fun _ => 0)))] H := hP
  have hD : va_D A [(h0, .inr (8, [.ref h1, .ref h2, .ref h3, .ref q8, .ref q17, .ref q26, .ref q35, .ref q44, .int 0, .int 0, .int 0, .int 0, .int 0, .int 0, .int 0])), (q8, .inl (cs.1, 4096, .inl (fun _ => 0))), (q17, .inl (cs.1, 4096, .inl (fun _ => 0))), (q26, .inl (cs.1, 4096, .inl (fun _ => 0))), (q35, .inl (cs.1, 4096, .inl (fun _ => 0))), (q44, .inl (cs.1, 4096, .inl (fun _ => 0)))] := hD
  exact W.vret hx hb hr (fun t ht hW => ⟨⟨_, rfl, ⟨q8, q17, q26, q35, q44, rfl⟩, by rw [ht]; exact hP, va_K.moved hW.alike hK, hD⟩, hS.F ht⟩) hS.2.2 mj_d8_64
set_option maxHeartbeats 4000000 in
set_option maxRecDepth 100000 in
theorem mj_k_pieces (l : Launch) (D : va_G) (cs : mm_C) (r h0 : Nat) (h1 h2 h3 h4 : Nat) : mj_Met l ⟨"PlainPacks$Pieces", "<init>", "(LPlainPacks$Source;LPlainPacks$Sink;LPlainPacks$Writer;LPlainPacks$Finder;)V"⟩ prog_6_method_1_code 5 1 12 D cs r [.ref h0, .ref h1, .ref h2, .ref h3, .ref h4] [(h0, .inr (9, [.null, .null, .null, .null, .int 0, .long 0]))] 0 0 (fun w => w = [(h0, .inr (9, [.ref h1, .ref h2, .ref h3, .ref h4, .int 0, .long 0]))]) := by
  intro sz
  refine Met.ofW (cc := prog_6_method_1_code) (maxL := 5) (ret := none) (by decide) rfl ?_
  intro p e s m args below meth c s₁ B hml hv
  obtain ⟨rfl, hsz, hP, hK, hD0, hE⟩ := hv
  have hx := B.exec
  have hb := B.bytes
  have hr := B.returns
  have hts0 := atoms_spec B.pre
  have hts : ∀ w ∈ mj_tb, w.before _ s = true := fun w hw => hts0 w (List.mem_cons_of_mem _ hw)
  have hown : s.vm.findClass (mm_cn 9) = some m.cls := findClass_of_methodNamed B.named
  have hlocks := B.notSynchronized
  have hin : meth.name = "<init>" := (name_of_methodNamed B.named B.method).1
  subst hsz
  have hD := hD0.self (sz := s.heap.size)
  generalize hAe : va_A [(h0, .inr (9, [.null, .null, .null, .null, .int 0, .long 0]))] s.heap.size = A at hD hE ⊢
  have hA : ∀ q : Nat, s.heap.size ≤ q → A q := fun q h => by rw [← hAe]; exact Or.inr h
  have hS : va_S A s.heap s.heap [] := va_S.rf
  have hl := lv_entry ([.ref h0, .ref h1, .ref h2, .ref h3, .ref h4]) (n := 5) (Nat.le_of_ble_eq_true rfl)
  rw [lg_entry_eq]
  generalize (lg_sl ([.ref h0, .ref h1, .ref h2, .ref h3, .ref h4]) ++ List.replicate (5 - (lg_sl ([.ref h0, .ref h1, .ref h2, .ref h3, .ref h4])).length) Slot.unset).toArray = ls at hl ⊢
  have hl : lv_has ls 5 [(0, .ref h0), (1, .ref h1), (2, .ref h2), (3, .ref h3), (4, .ref h4)] := hl
  refine lv_aload_n hx hb mj_d9_0 rfl (lv_at hl 0 rfl) ?_
  refine W.objInit hx hb hown (hts _ (mj_g (mm_tb2 (j := 113) rfl))) (hts _ mj_oi) (hts _ mj_ob) rfl (by rw [hml]; exact hl.1) rfl mj_d9_1 (Nat.le_of_ble_eq_true rfl) (Nat.le_of_ble_eq_true rfl) ?_
  refine W.eq (g2 := F0 m 4 ls []) rfl ?_
  refine lv_aload_n hx hb mj_d9_4 rfl (lv_at hl 0 rfl) ?_
  refine lv_aload_n hx hb mj_d9_5 rfl (lv_at hl 1 rfl) ?_
  refine mj_put (ci := 9) hx hb hts hown hK hP hD hS 0 rfl 0 (by decide +kernel) (by decide +kernel) hin rfl rfl (Nat.le_of_ble_eq_true rfl) mj_d9_6 (fun H locs hP hD hS => ?_)
  have hP : va_P D mm_cl [(h0, .inr (9, [.ref h1, .null, .null, .null, .int 0, .long 0]))] H := hP
  have hD : va_D A [(h0, .inr (9, [.ref h1, .null, .null, .null, .int 0, .long 0]))] := hD
  refine lv_aload_n hx hb mj_d9_9 rfl (lv_at hl 0 rfl) ?_
  refine lv_aload_n hx hb mj_d9_10 rfl (lv_at hl 2 rfl) ?_
  refine mj_put (ci := 9) hx hb hts hown hK hP hD hS 0 rfl 1 (by decide +kernel) (by decide +kernel) hin rfl rfl (Nat.le_of_ble_eq_true rfl) mj_d9_11 (fun H locs hP hD hS => ?_)
  have hP : va_P D mm_cl [(h0, .inr (9, [.ref h1, .ref h2, .null, .null, .int 0, .long 0]))] H := hP
  have hD : va_D A [(h0, .inr (9, [.ref h1, .ref h2, .null, .null, .int 0, .long 0]))] := hD
  refine lv_aload_n hx hb mj_d9_14 rfl (lv_at hl 0 rfl) ?_
  refine lv_aload_n hx hb mj_d9_15 rfl (lv_at hl 3 rfl) ?_
  refine mj_put (ci := 9) hx hb hts hown hK hP hD hS 0 rfl 2 (by decide +kernel) (by decide +kernel) hin rfl rfl (Nat.le_of_ble_eq_true rfl) mj_d9_16 (fun H locs hP hD hS => ?_)
  have hP : va_P D mm_cl [(h0, .inr (9, [.ref h1, .ref h2, .ref h3, .null, .int 0, .long 0]))] H := hP
  have hD : va_D A [(h0, .inr (9, [.ref h1, .ref h2, .ref h3, .null, .int 0, .long 0]))] := hD
  refine lv_aload_n hx hb mj_d9_19 rfl (lv_at hl 0 rfl) ?_
  refine lv_aload hx hb mj_d9_20 (lv_at hl 4 rfl) ?_
  refine mj_put (ci := 9) hx hb hts hown hK hP hD hS 0 rfl 3 (by decide +kernel) (by decide +kernel) hin rfl rfl (Nat.le_of_ble_eq_true rfl) mj_d9_22 (fun H locs hP hD hS => ?_)
  have hP : va_P D mm_cl [(h0, .inr (9, [.ref h1, .ref h2, .ref h3, .ref h4, .int 0, .long 0]))] H := hP
  have hD : va_D A [(h0, .inr (9, [.ref h1, .ref h2, .ref h3, .ref h4, .int 0, .long 0]))] := hD
  exact W.vret hx hb hr (fun t ht hW => ⟨⟨_, rfl, rfl, by rw [ht]; exact hP, va_K.moved hW.alike hK, hD⟩, hS.F ht⟩) hS.2.2 mj_d9_25
set_option maxHeartbeats 4000000 in
set_option maxRecDepth 100000 in
theorem mj_k_chances (l : Launch) (D : va_G) (cs : mm_C) (r h0 : Nat) (h1 h2 h3 : Nat) : mj_Met l ⟨"PlainPacks$Chances", "<init>", "(LPlainPacks$Source;LPlainPacks$Sink;LPlainPacks$Writer;)V"⟩ prog_3_method_1_code 4 1 12 D cs r [.ref h0, .ref h1, .ref h2, .ref h3] [(h0, .inr (11, [.null, .null, .null, .null, .long 0, .long 0, .int 0, .int 0, .int 0, .int 0, .int 0, .int 0, .int 0, .int 0, .long 0, .long 0]))] 1 14340 (fun w => ∃ q8 : Nat, w = [(h0, .inr (11, [.ref h1, .ref h2, .ref h3, .ref q8, .long 0, .long 0, .int 0, .int 0, .int 0, .int 0, .int 0, .int 0, .int 0, .int 0, .long 0, .long 0])), (q8, .inl (cs.1, 14340, .inl (fun _ => 0)))]) := by
  intro sz
  refine Met.ofW (cc := prog_3_method_1_code) (maxL := 4) (ret := none) (by decide) rfl ?_
  intro p e s m args below meth c s₁ B hml hv
  obtain ⟨rfl, hsz, hP, hK, hD0, hE⟩ := hv
  have hx := B.exec
  have hb := B.bytes
  have hr := B.returns
  have hts0 := atoms_spec B.pre
  have hts : ∀ w ∈ mj_tb, w.before _ s = true := fun w hw => hts0 w (List.mem_cons_of_mem _ hw)
  have hown : s.vm.findClass (mm_cn 11) = some m.cls := findClass_of_methodNamed B.named
  have hlocks := B.notSynchronized
  have hin : meth.name = "<init>" := (name_of_methodNamed B.named B.method).1
  subst hsz
  have hD := hD0.self (sz := s.heap.size)
  generalize hAe : va_A [(h0, .inr (11, [.null, .null, .null, .null, .long 0, .long 0, .int 0, .int 0, .int 0, .int 0, .int 0, .int 0, .int 0, .int 0, .long 0, .long 0]))] s.heap.size = A at hD hE ⊢
  have hA : ∀ q : Nat, s.heap.size ≤ q → A q := fun q h => by rw [← hAe]; exact Or.inr h
  have hS : va_S A s.heap s.heap [] := va_S.rf
  have hl := lv_entry ([.ref h0, .ref h1, .ref h2, .ref h3]) (n := 4) (Nat.le_of_ble_eq_true rfl)
  rw [lg_entry_eq]
  generalize (lg_sl ([.ref h0, .ref h1, .ref h2, .ref h3]) ++ List.replicate (4 - (lg_sl ([.ref h0, .ref h1, .ref h2, .ref h3])).length) Slot.unset).toArray = ls at hl ⊢
  have hl : lv_has ls 4 [(0, .ref h0), (1, .ref h1), (2, .ref h2), (3, .ref h3)] := hl
  refine lv_aload_n hx hb mj_d11_0 rfl (lv_at hl 0 rfl) ?_
  refine W.objInit hx hb hown (hts _ (mj_g (mm_tb2 (j := 199) rfl))) (hts _ mj_oi) (hts _ mj_ob) rfl (by rw [hml]; exact hl.1) rfl mj_d11_1 (Nat.le_of_ble_eq_true rfl) (Nat.le_of_ble_eq_true rfl) ?_
  refine W.eq (g2 := F0 m 4 ls []) rfl ?_
  refine lv_aload_n hx hb mj_d11_4 rfl (lv_at hl 0 rfl) ?_
  refine lv_sipush (v := 14340) hx hb mj_d11_5 (by decide +kernel) ?_
  refine mj_newi hx hb hts hK hP hD hS hA (N := 14340) (by decide +kernel) (by decide +kernel) (by decide +kernel) (Nat.le_of_ble_eq_true rfl) (Nat.le_of_ble_eq_true rfl) mj_d11_8 (fun q8 H hP hD hS => ?_)
  have hP : va_P D mm_cl [(h0, .inr (11, [.null, .null, .null, .null, .long 0, .long 0, .int 0, .int 0, .int 0, .int 0, .int 0, .int 0, .int 0, .int 0, .long 0, .long 0])), (q8, .inl (cs.1, 14340, .inl (fun _ => 0)))] H := hP
  have hD : va_D A [(h0, .inr (11, [.null, .null, .null, .null, .long 0, .long 0, .int 0, .int 0, .int 0, .int 0, .int 0, .int 0, .int 0, .int 0, .long 0, .long 0])), (q8, .inl (cs.1, 14340, .inl (fun _ => 0)))] := hD
  refine W.widen (k := 1) (n := 14340) (Nat.le_of_ble_eq_true rfl) (Nat.le_of_ble_eq_true rfl) ?_
  refine mj_put (ci := 11) hx hb hts hown hK hP hD hS 0 rfl 3 (by decide +kernel) (by decide +kernel) hin rfl rfl (Nat.le_of_ble_eq_true rfl) mj_d11_10 (fun H locs hP hD hS => ?_)
  have hP : va_P D mm_cl [(h0, .inr (11, [.null, .null, .null, .ref q8, .long 0, .long 0, .int 0, .int 0, .int 0, .int 0, .int 0, .int 0, .int 0, .int 0, .long 0, .long 0])), (q8, .inl (cs.1, 14340, .inl (fun _ => 0)))] H := hP
  have hD : va_D A [(h0, .inr (11, [.null, .null, .null, .ref q8, .long 0, .long 0, .int 0, .int 0, .int 0, .int 0, .int 0, .int 0, .int 0, .int 0, .long 0, .long 0])), (q8, .inl (cs.1, 14340, .inl (fun _ => 0)))] := hD
  refine lv_aload_n hx hb mj_d11_13 rfl (lv_at hl 0 rfl) ?_
  refine lv_aload_n hx hb mj_d11_14 rfl (lv_at hl 1 rfl) ?_
  refine mj_put (ci := 11) hx hb hts hown hK hP hD hS 0 rfl 0 (by decide +kernel) (by decide +kernel) hin rfl rfl (Nat.le_of_ble_eq_true rfl) mj_d11_15 (fun H locs hP hD hS => ?_)
  have hP : va_P D mm_cl [(h0, .inr (11, [.ref h1, .null, .null, .ref q8, .long 0, .long 0, .int 0, .int 0, .int 0, .int 0, .int 0, .int 0, .int 0, .int 0, .long 0, .long 0])), (q8, .inl (cs.1, 14340, .inl (fun _ => 0)))] H := hP
  have hD : va_D A [(h0, .inr (11, [.ref h1, .null, .null, .ref q8, .long 0, .long 0, .int 0, .int 0, .int 0, .int 0, .int 0, .int 0, .int 0, .int 0, .long 0, .long 0])), (q8, .inl (cs.1, 14340, .inl (fun _ => 0)))] := hD
  refine lv_aload_n hx hb mj_d11_18 rfl (lv_at hl 0 rfl) ?_
  refine lv_aload_n hx hb mj_d11_19 rfl (lv_at hl 2 rfl) ?_
  refine mj_put (ci := 11) hx hb hts hown hK hP hD hS 0 rfl 1 (by decide +kernel) (by decide +kernel) hin rfl rfl (Nat.le_of_ble_eq_true rfl) mj_d11_20 (fun H locs hP hD hS => ?_)
  have hP : va_P D mm_cl [(h0, .inr (11, [.ref h1, .ref h2, .null, .ref q8, .long 0, .long 0, .int 0, .int 0, .int 0, .int 0, .int 0, .int 0, .int 0, .int 0, .long 0, .long 0])), (q8, .inl (cs.1, 14340, .inl (fun _ => 0)))] H := hP
  have hD : va_D A [(h0, .inr (11, [.ref h1, .ref h2, .null, .ref q8, .long 0, .long 0, .int 0, .int 0, .int 0, .int 0, .int 0, .int 0, .int 0, .int 0, .long 0, .long 0])), (q8, .inl (cs.1, 14340, .inl (fun _ => 0)))] := hD
  refine lv_aload_n hx hb mj_d11_23 rfl (lv_at hl 0 rfl) ?_
  refine lv_aload_n hx hb mj_d11_24 rfl (lv_at hl 3 rfl) ?_
  refine mj_put (ci := 11) hx hb hts hown hK hP hD hS 0 rfl 2 (by decide +kernel) (by decide +kernel) hin rfl rfl (Nat.le_of_ble_eq_true rfl) mj_d11_25 (fun H locs hP hD hS => ?_)
  have hP : va_P D mm_cl [(h0, .inr (11, [.ref h1, .ref h2, .ref h3, .ref q8, .long 0, .long 0, .int 0, .int 0, .int 0, .int 0, .int 0, .int 0, .int 0, .int 0, .long 0, .long 0])), (q8, .inl (cs.1, 14340, .inl (fun _ => 0)))] H := hP
  have hD : va_D A [(h0, .inr (11, [.ref h1, .ref h2, .ref h3, .ref q8, .long 0, .long 0, .int 0, .int 0, .int 0, .int 0, .int 0, .int 0, .int 0, .int 0, .long 0, .long 0])), (q8, .inl (cs.1, 14340, .inl (fun _ => 0)))] := hD
  exact W.vret hx hb hr (fun t ht hW => ⟨⟨_, rfl, ⟨q8, rfl⟩, by rw [ht]; exact hP, va_K.moved hW.alike hK, hD⟩, hS.F ht⟩) hS.2.2 mj_d11_28
