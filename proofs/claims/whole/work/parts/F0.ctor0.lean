/-! CONSTRUCTORS: rows -/
def mj_tb : List Cond := lw_tbl.filter goodWord
theorem mj_g {w : Cond} (h : w ∈ mm_tbl) (hk : goodWord w = true := by rfl) : w ∈ mj_tb := List.mem_filter.mpr ⟨(List.mem_filter.mp h).1, hk⟩
theorem mj_uin {ci : Nat} (hci : ci < 13) : ∀ x ∈ u_ws (mm_cn ci) (mm_T ci) (mm_N ci), x ∈ mj_tb := by
  intro x hx
  refine mj_g (mm_in_ok ci hci x hx) ?_
  obtain ⟨k, hk, rfl⟩ := List.mem_map.mp hx
  unfold u_lay
  split <;> rfl
theorem mj_ob : Cond.code Lib.objectInit ⟨#[0xb1]⟩ 1 none ∈ mj_tb := mj_g (mm_tb1 (j := 31) rfl)
theorem mj_oi : Cond.instanceMethod Lib.objectInit ∈ mj_tb := mj_g (mm_tb1 (j := 30) rfl)
theorem mj_aI : Cond.arrayClass .int ∈ mj_tb := mj_g (mm_tb1 (j := 79) rfl)
theorem mj_aJ : Cond.arrayClass .long ∈ mj_tb := mj_g (mm_tb7 (j := 184) rfl)
theorem mj_ini : ∀ ci, ci < 13 → Cond.initialized (mm_cn ci) ∈ mj_tb := by
  intro ci h
  match ci, h with
  | 0, _ => exact mj_g (mm_tb1 (j := 1) rfl)
  | 1, _ => exact mj_g (mm_tb1 (j := 2) rfl)
  | 2, _ => exact mj_g (mm_tb1 (j := 3) rfl)
  | 3, _ => exact mj_g (mm_tb1 (j := 4) rfl)
  | 4, _ => exact mj_g (mm_tb1 (j := 5) rfl)
  | 5, _ => exact mj_g (mm_tb1 (j := 6) rfl)
  | 6, _ => exact mj_g (mm_tb1 (j := 7) rfl)
  | 7, _ => exact mj_g (mm_tb1 (j := 8) rfl)
  | 8, _ => exact mj_g (mm_tb1 (j := 9) rfl)
  | 9, _ => exact mj_g (mm_tb1 (j := 10) rfl)
  | 10, _ => exact mj_g (mm_tb1 (j := 11) rfl)
  | 11, _ => exact mj_g (mm_tb1 (j := 12) rfl)
  | 12, _ => exact mj_g (mm_tb1 (j := 13) rfl)
  | n + 13, h => exact absurd h (by omega)
theorem mj_ins : ∀ ci, ci < 13 → Cond.instantiable (mm_cn ci) (mm_N ci) ∈ mj_tb := by
  intro ci h
  match ci, h with
  | 0, _ => exact mj_g (mm_tb1 (j := 25) rfl)
  | 1, _ => exact mj_g (mm_tb1 (j := 33) rfl)
  | 2, _ => exact mj_g (mm_tb1 (j := 81) rfl)
  | 3, _ => exact mj_g (mm_tb1 (j := 128) rfl)
  | 4, _ => exact mj_g (mm_tb1 (j := 160) rfl)
  | 5, _ => exact mj_g (mm_tb1 (j := 190) rfl)
  | 6, _ => exact mj_g (mm_tb1 (j := 225) rfl)
  | 7, _ => exact mj_g (mm_tb1 (j := 231) rfl)
  | 8, _ => exact mj_g (mm_tb2 (j := 57) rfl)
  | 9, _ => exact mj_g (mm_tb2 (j := 109) rfl)
  | 10, _ => exact mj_g (mm_tb2 (j := 134) rfl)
  | 11, _ => exact mj_g (mm_tb2 (j := 195) rfl)
  | 12, _ => exact mj_g (mm_tb7 (j := 3) rfl)
  | n + 13, h => exact absurd h (by omega)
/-- the links of private constructors -/
def mj_nest : List Cond := [.methodLinkNest "PlainPacks" 11 ⟨"PlainPacks$Source", "<init>", "()V"⟩ "PlainPacks", .methodLinkNest "PlainPacks" 18 ⟨"PlainPacks$Sink", "<init>", "()V"⟩ "PlainPacks", .methodLinkNest "PlainPacks" 25 ⟨"PlainPacks$Writer", "<init>", "()V"⟩ "PlainPacks", .methodLinkNest "PlainPacks" 32 ⟨"PlainPacks$Turnings", "<init>", "()V"⟩ "PlainPacks"]
theorem mj_nestM {w : Cond} (h : w ∈ mj_nest) : ∃ (a : String) (i : Nat) (x : MethodName) (b : String), w = .methodLinkNest a i x b := by
  simp only [mj_nest, List.mem_cons, List.not_mem_nil, or_false] at h
  rcases h with rfl | rfl | rfl | rfl <;> exact ⟨_, _, _, _, rfl⟩
/-- what a constructor needs beside its words: the static row, the array class of codes, the private links -/
def mj_Ex (r : Nat) (A : Nat → Prop) (U : State) : Prop := va_T .int r 19 (fun j => .int (mm_row j)) A U U.heap ∧ va_Z "PlainPacks$Blocks" "ROW_ORDER" "[I" (.ref r) A U U.heap ∧ va_AO "PlainPacks$Codes" U ∧ ∀ w ∈ mj_nest, va_Nw w U
theorem mj_Ex.moved {r : Nat} {A A1 : Nat → Prop} {s U : State} {locs : List Loc} (hE : mj_Ex r A s) (hS : va_S A s.heap U.heap locs) (hW : s.WarmedH U.vm) (hA : ∀ q, A1 q → A q) : mj_Ex r A1 U := by
  obtain ⟨h1, h2, h3, h4⟩ := hE
  refine ⟨((h1.kept hS.2.1).moved hW.alike).narrow hA, ((h2.kept hS.2.1).moved hW.alike).narrow hA, h3.moved hW.alike, fun w hw => ?_⟩
  obtain ⟨a, i, x, b, rfl⟩ := mj_nestM hw
  exact (h4 _ hw).warmM hW
def mj_Pre (D : va_G) (cs : mm_C) (r : Nat) (pre : va_W) (sz : Nat) (U : State) : Prop := U.heap.size = sz ∧ va_P D mm_cl pre U.heap ∧ va_K D mm_cl (mm_tys cs) U ∧ va_D (fun _ => True) pre ∧ mj_Ex r (va_A pre sz) U
/-- a constructor's contract: from the world pre it comes to a world of which post holds -/
def mj_Met (l : Launch) (y : MethodName) (b : ByteArray) (ml fr lo : Nat) (D : va_G) (cs : mm_C) (r : Nat) (as : List Value) (pre : va_W) (mc ms : Nat) (post : va_W → Prop) : Prop :=
  ∀ sz : Nat, Met l y (Cond.code y b ml none :: mj_tb) { frames := fr, cells := mc, slots := ms, locals := lo } (va_Pc as (mj_Pre D cs r pre sz)) (va_Qv post (fun w t => va_P D mm_cl w t.heap ∧ va_K D mm_cl (mm_tys cs) t ∧ va_D (va_A pre sz) w) (va_A pre sz)) mc ms (va_A pre sz)
theorem mj_join {A0 : Nat → Prop} {D : va_G} {cl : List vw_C} {wr pre w : va_W} {H H1 : Heap} (hP : va_P D cl (wr ++ pre) H) (hD : va_D A0 (wr ++ pre)) (hk : ∀ q : Nat, q < H.size → ¬ va_A pre H.size q → H1[q]? = H[q]?) (hF : ∀ q, va_A pre H.size q → A0 q) (hP1 : va_P D cl w H1) (hD1 : va_D (va_A pre H.size) w) : va_P D cl (wr ++ w) H1 ∧ va_D A0 (wr ++ w) := by
  have hl : ∀ (k : Nat) (q : Nat × va_E), wr[k]? = some q → (wr ++ pre)[k]? = some q := fun k q h => by
    rw [List.getElem?_append_left (List.getElem?_eq_some_iff.mp h).1]; exact h
  have hr : ∀ (k : Nat) (q : Nat × va_E), pre[k]? = some q → (wr ++ pre)[wr.length + k]? = some q := fun k q h => by
    rw [List.getElem?_append_right (by omega), Nat.add_sub_cancel_left]; exact h
  have hPr : va_P D cl wr H := fun k q h => hP k q (hl k q h)
  have hn : ∀ (k : Nat) (q : Nat × va_E), wr[k]? = some q → ¬ va_A pre H.size q.1 := by
    intro k q h z
    have hk2 := (List.getElem?_eq_some_iff.mp h).1
    rcases z with ⟨j, e, z⟩ | z
    · have := hD.1 k (wr.length + j) _ _ (hl k q h) (hr j _ z) rfl
      omega
    · have := (hPr k q h).lt
      omega
  refine ⟨(hPr.kept (fun k q h => hk q.1 (hPr k q h).lt (hn k q h))).app hP1, ?_⟩
  refine va_D.app (⟨fun i j a b h1 h2 e => hD.1 i j a b (hl i a h1) (hl j b h2) e, fun k q h => hD.2 k q (hl k q h)⟩) (hD1.weaken (fun _ _ _ z => hF _ z)) ?_
  intro i j a b h1 h2 e
  exact hn i a h1 (by rw [e]; exact hD1.2 j b h2)
theorem mj_pre {D : va_G} {cs : mm_C} {r : Nat} {A0 : Nat → Prop} {wr pre : va_W} {s : State} {H : Heap} {locs : List Loc} {as : List Value} (hK : va_K D mm_cl (mm_tys cs) s) (hP : va_P D mm_cl (wr ++ pre) H) (hD : va_D A0 (wr ++ pre)) (hS : va_S A0 s.heap H locs) (hF : ∀ q, va_A pre H.size q → A0 q) (hE : mj_Ex r A0 s) : PreS s H (va_Pc as (mj_Pre D cs r pre H.size)) as := by
  have hr : ∀ (k : Nat) (q : Nat × va_E), pre[k]? = some q → (wr ++ pre)[wr.length + k]? = some q := fun k q h => by
    rw [List.getElem?_append_right (by omega), Nat.add_sub_cancel_left]; exact h
  refine ⟨fun a U g mk q => ?_, fun U hU hW => ⟨rfl, by rw [hU], fun k q h => by rw [hU]; exact hP _ q (hr k q h), va_K.moved hW.alike hK, ⟨fun i j a b h1 h2 e => ?_, fun _ _ _ => trivial⟩, ?_⟩⟩
  · obtain ⟨q0, q1, q2, q3, q4, q5⟩ := q
    exact ⟨q0, q1, q2, va_K.moved (u := U) (U := U.calling g mk a) (Vm.Alike.refl U.vm) q3, q4, mj_Ex.moved (U := U.calling g mk a) (locs := []) q5 va_S.rf (State.WarmedH.refl U) (fun _ h => h)⟩
  · have := hD.1 _ _ _ _ (hr i a h1) (hr j b h2) e
    omega
  · exact mj_Ex.moved (locs := locs) hE (by rw [hU]; exact hS) hW hF
theorem mj_free {A0 : Nat → Prop} {wr pre : va_W} {H0 H : Heap} {locs : List Loc} (hD : va_D A0 (wr ++ pre)) (hS : va_S A0 H0 H locs) (hA : ∀ q, H0.size ≤ q → A0 q) : ∀ q, va_A pre H.size q → A0 q := by
  intro q h
  rcases h with ⟨k, e, h⟩ | h
  · exact hD.2 (wr.length + k) (q, e) (by rw [List.getElem?_append_right (by omega), Nat.add_sub_cancel_left]; exact h)
  · exact hA q (Nat.le_trans hS.1 h)
theorem mj_good {x : Cond} (hx : x ∈ mj_tb) : GoodIn mj_tb (x :: mj_tb) := by
  have key : ∀ w ∈ mj_tb, w ∈ mj_tb ∧ ((w.onTables && w.keeps) = true ∨ ∃ ty, w = .arrayClass ty) := by
    intro w hw
    refine ⟨hw, ?_⟩
    have := (List.mem_filter.mp hw).2
    unfold goodWord at this
    split at this
    · exact .inr ⟨_, rfl⟩
    · exact .inl this
  intro w hw
  rcases List.mem_cons.mp hw with rfl | hw
  · exact key _ hx
  · exact key _ hw
section MJ
variable {p : Program} {l : Launch} {e : Env} {R : Room} {s : State} {m : MethodId} {args : Array Value} {below : List Frame} {meth : Method} {c : Code} {H : Heap} {locs : List Loc} {cells slots : Nat} {Q : State → Prop}
variable {cc : ByteArray} {pc : Nat} {ls : Array Slot} {rest : List Value} {D : va_G} {cs : mm_C} {A : Nat → Prop} {H0 : Heap} {ws : va_W}
theorem mj_newi (hx : p.tables.exec = Jvm.exec) (hb : c.code = cc) (hts : ∀ w ∈ mj_tb, w.before args s = true) (hK : va_K D mm_cl (mm_tys cs) s) (hP : va_P D mm_cl ws H) (hD : va_D A ws) (hS : va_S A H0 H locs) (hA : ∀ q, H0.size ≤ q → A q) {n : Int32} {N : Nat} (hn : ¬ n < 0) (hN : n.toNatClampNeg = N) (hN2 : N ≤ 100000) (hcells : cells + 1 ≤ R.cells) (hslots : slots + N ≤ R.slots) (hdg : decode cc pc = .ok (.newarray .int, 2))
    (kk : ∀ (q : Nat) (H1 : Heap), va_P D mm_cl (ws ++ [(q, .inl (cs.1, N, .inl (fun _ => 0)))]) H1 → va_D A (ws ++ [(q, .inl (cs.1, N, .inl (fun _ => 0)))]) → va_S A H0 H1 locs → W p l e R s m args below meth c H1 locs (cells + 1) (slots + N) Q (F0 m (pc + 2) ls (.ref q :: rest))) : W p l e R s m args below meth c H locs cells slots Q (F0 m pc ls (.int n :: rest)) := by
  refine va_newa (atype := .int) hx hb (hts _ mj_aI) (ty := .int) rfl hK hP hD hS hA (a0 := (N, .inl (fun _ => 0))) (fun _ => rfl) hn hN (by show N * 4 ≤ _; omega) hcells hslots hdg (fun q cA H1 k1 p1 d1 s1 => ?_)
  have h1 : s.vm.findClass ("[" ++ FieldType.int.toString) = some cA := (k1.2 3 _ rfl).2
  have h0 : s.vm.findClass ("[" ++ FieldType.int.toString) = some cs.1 := (hK.2 0 _ rfl).2
  have e1 : cA = cs.1 := Option.some.inj (h1.symm.trans h0)
  rw [e1] at p1 d1
  exact kk q H1 p1 d1 s1
theorem mj_newl (hx : p.tables.exec = Jvm.exec) (hb : c.code = cc) (hts : ∀ w ∈ mj_tb, w.before args s = true) (hK : va_K D mm_cl (mm_tys cs) s) (hP : va_P D mm_cl ws H) (hD : va_D A ws) (hS : va_S A H0 H locs) (hA : ∀ q, H0.size ≤ q → A q) {n : Int32} {N : Nat} (hn : ¬ n < 0) (hN : n.toNatClampNeg = N) (hN2 : N ≤ 100000) (hcells : cells + 1 ≤ R.cells) (hslots : slots + N ≤ R.slots) (hdg : decode cc pc = .ok (.newarray .long, 2))
    (kk : ∀ (q : Nat) (H1 : Heap), va_P D mm_cl (ws ++ [(q, .inl (cs.2.1, N, .inr (.inl (fun _ => 0))))]) H1 → va_D A (ws ++ [(q, .inl (cs.2.1, N, .inr (.inl (fun _ => 0))))]) → va_S A H0 H1 locs → W p l e R s m args below meth c H1 locs (cells + 1) (slots + N) Q (F0 m (pc + 2) ls (.ref q :: rest))) : W p l e R s m args below meth c H locs cells slots Q (F0 m pc ls (.int n :: rest)) := by
  refine va_newa (atype := .long) hx hb (hts _ mj_aJ) (ty := .long) rfl hK hP hD hS hA (a0 := (N, .inr (.inl (fun _ => 0)))) (fun _ => rfl) hn hN (by show N * 8 ≤ _; omega) hcells hslots hdg (fun q cA H1 k1 p1 d1 s1 => ?_)
  have h1 : s.vm.findClass ("[" ++ FieldType.long.toString) = some cA := (k1.2 3 _ rfl).2
  have h0 : s.vm.findClass ("[" ++ FieldType.long.toString) = some cs.2.1 := (hK.2 1 _ rfl).2
  have e1 : cA = cs.2.1 := Option.some.inj (h1.symm.trans h0)
  rw [e1] at p1 d1
  exact kk q H1 p1 d1 s1
theorem mj_newq (hx : p.tables.exec = Jvm.exec) (hb : c.code = cc) {own : String} {index : Nat} (hown : s.vm.findClass own = some m.cls) (hcl : (Cond.classLink own index "PlainPacks$Codes").before args s = true) (hov : va_AO "PlainPacks$Codes" s) (hK : va_K D mm_cl (mm_tys cs) s) (hP : va_P D mm_cl ws H) (hD : va_D A ws) (hS : va_S A H0 H locs) (hA : ∀ q, H0.size ≤ q → A q) {n : Int32} {N : Nat} (hn : ¬ n < 0) (hN : n.toNatClampNeg = N) (hN2 : N ≤ 100000) (hcells : cells + 1 ≤ R.cells) (hslots : slots + N ≤ R.slots) (hdg : decode cc pc = .ok (.anewarray index, 3))
    (kk : ∀ (q : Nat) (H1 : Heap), va_P D mm_cl (ws ++ [(q, .inl (cs.2.2, N, .inr (.inr (.inr (.inr (fun _ => none))))))]) H1 → va_D A (ws ++ [(q, .inl (cs.2.2, N, .inr (.inr (.inr (.inr (fun _ => none))))))]) → va_S A H0 H1 locs → W p l e R s m args below meth c H1 locs (cells + 1) (slots + N) Q (F0 m (pc + 3) ls (.ref q :: rest))) : W p l e R s m args below meth c H locs cells slots Q (F0 m pc ls (.int n :: rest)) := by
  refine va_newq hx hb hown hcl hov hK hP hD hS hA hn hN (by omega) hcells hslots hdg (fun q cA H1 k1 p1 d1 s1 => ?_)
  obtain ⟨_, _, _, _, _, h1⟩ : va_RA s cA (.object "PlainPacks$Codes") := (k1.2 3 _ rfl).2
  obtain ⟨_, _, _, _, _, h0⟩ : va_RA s cs.2.2 (.object "PlainPacks$Codes") := (hK.2 2 _ rfl).2
  have e1 : cA = cs.2.2 := Option.some.inj (h1.symm.trans h0)
  rw [e1] at p1 d1
  exact kk q H1 p1 d1 s1
theorem mj_new (hx : p.tables.exec = Jvm.exec) (hb : c.code = cc) (hts : ∀ w ∈ mj_tb, w.before args s = true) {own : String} {index : Nat} (hown : s.vm.findClass own = some m.cls) (ci N : Nat) (hci : ci < 13) (hN : mm_N ci = N) (hcl : Cond.classLink own index (mm_cn ci) ∈ mj_tb) (hK : va_K D mm_cl (mm_tys cs) s) (hP : va_P D mm_cl ws H) (hD : va_D A ws) (hS : va_S A H0 H locs) (hA : ∀ q, H0.size ≤ q → A q) {fs : List Value} (hfs : ∀ j, j < N → defaultValue (mm_ty ci j) = vp_V fs j) (hcells : cells + 1 ≤ R.cells) (hslots : slots + N ≤ R.slots) (hdg : decode cc pc = .ok (.new index, 3))
    (kk : ∀ (q : Nat) (H1 : Heap), va_P D mm_cl (ws ++ [(q, .inr (ci, fs))]) H1 → va_D A (ws ++ [(q, .inr (ci, fs))]) → va_S A H0 H1 locs → W p l e R s m args below meth c H1 locs (cells + 1) (slots + N) Q (F0 m (pc + 3) ls (.ref q :: rest))) : W p l e R s m args below meth c H locs cells slots Q (F0 m pc ls rest) := by
  subst hN
  exact va_new (C := mm_cn ci) (T := mm_T ci) (N := mm_N ci) hx hb hts (mj_uin hci) (mm_ty ci) (mm_ty_ok ci hci) hown (hts _ hcl) (hts _ (mj_ins ci hci)) (hts _ (mj_ini ci hci)) hK hP hD hS hA (mm_cl_at ci hci) hfs hcells hslots hdg kk
theorem mj_put (hx : p.tables.exec = Jvm.exec) (hb : c.code = cc) (hts : ∀ w ∈ mj_tb, w.before args s = true) {ci : Nat} (hown : s.vm.findClass (mm_cn ci) = some m.cls) (hK : va_K D mm_cl (mm_tys cs) s) (hP : va_P D mm_cl ws H) (hD : va_D A ws) (hS : va_S A H0 H locs) (q0 : Nat) {a : Nat} {fs : List Value} (he : ws[q0]? = some (a, .inr (ci, fs))) (k : Nat) {index : Nat} (hfl : mm_fld ci index = some (ci, k)) (hfin : (mm_T ci k).2.2.2 = true) (hin : meth.name = "<init>") {v : Nat} (hnf : narrow (mm_ty ci k) (.ref v) = .ref v) (hfit : fits (mm_ty ci k) (.ref v) = true) (hl : k < fs.length) (hdg : decode cc pc = .ok (.putfield index, 3))
    (kk : ∀ (H1 : Heap) (locs1 : List Loc), va_P D mm_cl (ws.set q0 (a, .inr (ci, fs.set k (.ref v)))) H1 → va_D A (ws.set q0 (a, .inr (ci, fs.set k (.ref v)))) → va_S A H0 H1 locs1 → W p l e R s m args below meth c H1 locs1 cells slots Q (F0 m (pc + 3) ls rest)) : W p l e R s m args below meth c H locs cells slots Q (F0 m pc ls (.ref v :: .ref a :: rest)) := by
  obtain ⟨g1, g2, g3⟩ := mm_fld_ok hfl
  exact va_putF (own := mm_cn ci) (ref := mm_cn ci) (C := mm_cn ci) (T := mm_T ci) (N := mm_N ci) hx hb hts (mj_uin g3) (mm_ty ci) (mm_ty_ok ci g3) (mm_nm_ok ci g3) hown hK hP hD hS q0 he (mm_cl_at ci g3) k g2 (hts _ (mj_g g1)) (fun x h => by rw [mm_decl ci g3 k g2] at h; exact h) hfin hin (mm_decl ci g3 k g2) (mm_ty_ok ci g3 k g2) hnf hfit hl hdg kk
theorem mj_get (hx : p.tables.exec = Jvm.exec) (hb : c.code = cc) (hts : ∀ w ∈ mj_tb, w.before args s = true) {o ci : Nat} (hown : s.vm.findClass (mm_cn o) = some m.cls) (hK : va_K D mm_cl (mm_tys cs) s) (hP : va_P D mm_cl ws H) (q0 : Nat) {a : Nat} {fs : List Value} (he : ws[q0]? = some (a, .inr (ci, fs))) (k : Nat) {index : Nat} (hfl : mm_fld o index = some (ci, k)) {v : Value} (hv : fs[k]? = some v) (hdg : decode cc pc = .ok (.getfield index, 3))
    (kk : W p l e R s m args below meth c H locs cells slots Q (F0 m (pc + 3) ls (v :: rest))) : W p l e R s m args below meth c H locs cells slots Q (F0 m pc ls (.ref a :: rest)) := by
  obtain ⟨g1, g2, g3⟩ := mm_fld_ok hfl
  exact va_get (own := mm_cn o) (ref := mm_cn ci) (C := mm_cn ci) (T := mm_T ci) (N := mm_N ci) hx hb hts (mj_uin g3) hown hK hP q0 he (mm_cl_at ci g3) k g2 (hts _ (mj_g g1)) (fun x h => by rw [mm_decl ci g3 k g2] at h; exact h) hv hdg kk
theorem mj_call {y : MethodName} {b : ByteArray} {own : String} {ml fr lo mc ms index r a nL : Nat} {as : List Value} {wr pre : va_W} {post : va_W → Prop} (hM : mj_Met l y b ml fr lo D cs r (.ref a :: as) pre mc ms post) (hx : p.tables.exec = Jvm.exec) (hb : c.code = cc) (hml : c.maxLocals = nL) (hown : s.vm.findClass own = some m.cls) (hts : ∀ w ∈ mj_tb, w.before args s = true) (hcode : Cond.code y b ml none ∈ mj_tb) (hini : Cond.initialized y.cls ∈ mj_tb) (hlink : Cond.methodLink own index y ∈ mj_tb) (hinst : Cond.instanceMethod y ∈ mj_tb) (hy : y.name = "<init>") (hyd : y.cls ≠ "java/lang/invoke/MethodHandle" ∧ y.cls ≠ "java/lang/invoke/VarHandle" ∧ (parseMethodDescriptor y.desc).map (fun d => d.parameters.length) = some as.length) (hR : fr + 1 ≤ R.frames ∧ 8 + (ml + 11) + lo ≤ R.locals) (hls : ls.size = nL) {st : List Value} (hst : st = as.reverse ++ .ref a :: rest) (hrest : (rest.map fun v => v.category).sum ≤ 8) (hdg : decode cc pc = .ok (.invokespecial index, 3)) (hf : cells + mc ≤ R.cells ∧ slots + ms ≤ R.slots)
    (hK : va_K D mm_cl (mm_tys cs) s) (hP : va_P D mm_cl (wr ++ pre) H) (hD : va_D A (wr ++ pre)) (hS : va_S A s.heap H locs) (hA : ∀ q, s.heap.size ≤ q → A q) (hE : mj_Ex r A s)
    (kk : ∀ (w : va_W) (H1 : Heap) (locs1 : List Loc), post w → va_P D mm_cl (wr ++ w) H1 → va_D A (wr ++ w) → va_S A s.heap H1 locs1 → W p l e R s m args below meth c H1 locs1 (cells + mc) (slots + ms) Q (F0 m (pc + 3) ls rest)) : W p l e R s m args below meth c H locs cells slots Q (F0 m pc ls st) := by
  have hF := mj_free hD hS hA
  refine va_callv (va_runI (As := as) (b := a) (rest := rest) ⟨hx, hb, hml, hown, hts⟩ (hM H.size) (cwI as.length hts (mj_good hcode) rfl rfl rfl (hts _ hini) (hts _ hlink) (hts _ hinst) hy hyd hR) (mj_pre hK hP hD hS hF hE) rfl rfl hls hst (lv_room hrest) hdg hf) hS (fun q _ h => hF q h) hF (fun w t H1 locs1 ht hvm hw hB hz1 hk1 hS1 => ?_)
  obtain ⟨hP1, -, hD1⟩ := hB
  rw [ht] at hP1
  obtain ⟨p1, d1⟩ := mj_join hP hD hk1 hF hP1 hD1
  exact kk w H1 locs1 hw p1 d1 hS1
theorem mj_callN {y : MethodName} {b : ByteArray} {own host : String} {ml fr lo mc ms index r a nL : Nat} {as : List Value} {wr pre : va_W} {post : va_W → Prop} (hM : mj_Met l y b ml fr lo D cs r (.ref a :: as) pre mc ms post) (hx : p.tables.exec = Jvm.exec) (hb : c.code = cc) (hml : c.maxLocals = nL) (hown : s.vm.findClass own = some m.cls) (hts : ∀ w ∈ mj_tb, w.before args s = true) (hcode : Cond.code y b ml none ∈ mj_tb) (hini : Cond.initialized y.cls ∈ mj_tb) (hlink : va_Nw (.methodLinkNest own index y host) s) (hinst : Cond.instanceMethod y ∈ mj_tb) (hy : y.name = "<init>") (hyd : y.cls ≠ "java/lang/invoke/MethodHandle" ∧ y.cls ≠ "java/lang/invoke/VarHandle" ∧ (parseMethodDescriptor y.desc).map (fun d => d.parameters.length) = some as.length) (hR : fr + 1 ≤ R.frames ∧ 8 + (ml + 11) + lo ≤ R.locals) (hls : ls.size = nL) {st : List Value} (hst : st = as.reverse ++ .ref a :: rest) (hrest : (rest.map fun v => v.category).sum ≤ 8) (hdg : decode cc pc = .ok (.invokespecial index, 3)) (hf : cells + mc ≤ R.cells ∧ slots + ms ≤ R.slots)
    (hK : va_K D mm_cl (mm_tys cs) s) (hP : va_P D mm_cl (wr ++ pre) H) (hD : va_D A (wr ++ pre)) (hS : va_S A s.heap H locs) (hA : ∀ q, s.heap.size ≤ q → A q) (hE : mj_Ex r A s)
    (kk : ∀ (w : va_W) (H1 : Heap) (locs1 : List Loc), post w → va_P D mm_cl (wr ++ w) H1 → va_D A (wr ++ w) → va_S A s.heap H1 locs1 → W p l e R s m args below meth c H1 locs1 (cells + mc) (slots + ms) Q (F0 m (pc + 3) ls rest)) : W p l e R s m args below meth c H locs cells slots Q (F0 m pc ls st) := by
  have hF := mj_free hD hS hA
  refine va_callv (va_runIN (As := as) (b := a) (rest := rest) ⟨hx, hb, hml, hown, hts⟩ (hM H.size) ⟨va_cnB as.length hts (mj_good hcode) rfl rfl rfl hlink (hts _ hini) hyd hR, hy, hts _ hinst⟩ (mj_pre hK hP hD hS hF hE) rfl rfl hls hst (lv_room hrest) hdg hf) hS (fun q _ h => hF q h) hF (fun w t H1 locs1 ht hvm hw hB hz1 hk1 hS1 => ?_)
  obtain ⟨hP1, -, hD1⟩ := hB
  rw [ht] at hP1
  obtain ⟨p1, d1⟩ := mj_join hP hD hk1 hF hP1 hD1
  exact kk w H1 locs1 hw p1 d1 hS1
end MJ
/-- a table of references, its function said anew -/
theorem mj_ext {D : va_G} {cl : List vw_C} {ws : va_W} {H : Heap} (hP : va_P D cl ws H) {k a n : Nat} {cA : ClassId} {f g : Nat → Option Nat} (h : ws[k]? = some (a, .inl (cA, n, .inr (.inr (.inr (.inr f)))))) (hfg : ∀ j, j < n → f j = g j) : va_P D cl (ws.set k (a, .inl (cA, n, .inr (.inr (.inr (.inr g)))))) H := by
  have key : vp_cell cA (n, .inr (.inr (.inr (.inr f)))) = vp_cell cA (n, .inr (.inr (.inr (.inr g)))) := by
    rw [vp_cell_q, vp_cell_q]
    unfold arrV
    congr 2
    funext j
    show va_rf (f j.val) = va_rf (g j.val)
    rw [hfg j.val j.isLt]
  intro i q hq
  rw [List.getElem?_set] at hq
  by_cases z : k = i
  · rw [if_pos z, if_pos (List.getElem?_eq_some_iff.mp h).1] at hq
    cases hq
    have h1 : H[a]? = some (vp_cell cA (n, .inr (.inr (.inr (.inr f))))) := hP k _ h
    show H[a]? = some (vp_cell cA (n, .inr (.inr (.inr (.inr g)))))
    rw [← key]
    exact h1
  · rw [if_neg z] at hq
    exact hP i q hq
