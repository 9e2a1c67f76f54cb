/-! THE CLAIM OUT OF ONE WALK OF THE LAW'S BODY -/
def R_law : String := "PlainPacksLaw"
def lw_P (b : Addr) (xs : List Int32) (args : Array Value) (s : State) : Prop := args = #[.ref b] ∧ s.IntsAt b xs ∧ xs.length ≤ 3072 ∧ (Jvm.Cond.and given_1 narrow_1).before args s = true
def lw_Q (_ : Array Value) (s : State) (o : Outcome) (t : State) : Prop := o = .returned (some (.int 1)) ∧ Framed s o t [] 601024 7293033
def lw_Z (below : List Frame) (a : Array Value) (s : State) : State → Prop := fun t => ∃ o, t.status = .running ∧ Ended t below o ∧ lw_Q a s o t
def lw_At (p : Program) (s : State) (m : MethodId) (meth : Method) (c : Code) (b L : Nat) (xs : Nat → Int32) : Prop :=
  p.tables.exec = Jvm.exec ∧ c.code = code ∧ meth.sig.returnType = ret ∧ c.maxLocals = 7 ∧ s.vm.findClass R_law = some m.cls ∧ (∀ w ∈ lw_tbl, w.before #[Value.ref b] s = true) ∧ va_X b L xs s s.heap ∧ b < s.heap.size ∧ meth.locks = false ∧ (Jvm.Cond.and given_1 narrow_1).before #[Value.ref b] s = true ∧ c.exceptionTable = #[]
theorem mj_l0 : decode code 0 = .ok (.new 8, 3) := by decide +kernel
theorem mj_l3 : decode code 3 = .ok (.dup, 1) := by decide +kernel
theorem mj_l4 : decode code 4 = .ok (.invokespecial 56, 3) := by decide +kernel
theorem mj_l7 : decode code 7 = .ok (.astore_n 1, 1) := by decide +kernel
theorem mj_l8 : decode code 8 = .ok (.new 57, 3) := by decide +kernel
theorem mj_l11 : decode code 11 = .ok (.dup, 1) := by decide +kernel
theorem mj_l12 : decode code 12 = .ok (.invokespecial 59, 3) := by decide +kernel
theorem mj_l15 : decode code 15 = .ok (.astore_n 2, 1) := by decide +kernel
theorem mj_l16 : decode code 16 = .ok (.iconst 1, 1) := by decide +kernel
theorem mj_l17 : decode code 17 = .ok (.newarray .long, 2) := by decide +kernel
theorem mj_l19 : decode code 19 = .ok (.astore_n 3, 1) := by decide +kernel
theorem mj_notrace {l : Launch} {e : Env} (hfl : l.flags = flags0) (ha : l.admits e) : e.platform.stackTraces = false := by
  have h := congrArg Platform.stackTraces ha.platform
  have h2 : l.stackTraces = false := by
    unfold Launch.stackTraces
    rw [hfl]
    decide +kernel
  exact h.trans h2
set_option maxHeartbeats 4000000 in
set_option maxRecDepth 100000 in
/-- from the loop's head on -/
theorem mj_end {p : Program} {e : Env} {s : State} {m : MethodId} {below : List Frame} {meth : Method} {c : Code} (l : Launch) (hfl : l.flags = flags0) {b L : Nat} {xs : Nat → Int32} (hL : L ≤ 3072) (C0 : lw_At p s m meth c b L xs) {D : va_G} {cs : mm_C} {r x mo o : Nat} {q1 q2 : Nat → Nat} {f89 f101 : Nat → Int32} {H : Heap} {ls : Array Slot} (hK : va_K D mm_cl (mm_tys cs) s) (hE : mj_Ex r (fun q : Nat => s.heap.size ≤ q) s) (g1 : ∀ i, i < 19 → f89 i = mm_row i) (g2 : f101 0 = 100) (g3 : f101 1 = 64) (hP : va_P D mm_cl (mj_all cs x mo o q1 q2 f89 f101) H) (hD : va_D (fun q : Nat => s.heap.size ≤ q) (mj_all cs x mo o q1 q2 f89 f101)) (hz : s.heap.size ≤ H.size) (hq : ∀ q : Nat, q < s.heap.size → H[q]? = s.heap[q]?) (hl : lv_has ls 7 [(3, .ref o), (2, .ref mo), (1, .ref x), (0, .ref b)]) : W p l e room_1 s m #[Value.ref b] below meth c H [] 111 395888 (lw_Z below #[Value.ref b] s) (F0 m 20 ls []) := by
  obtain ⟨hx, hb, hr, hml, hown, hts, hX, hbl, hlocks, hgv, hext⟩ := C0
  intro T hT X
  have htr := mj_notrace hfl X.admits
  have hPm := mj_memP (b := b) (r := r) hP
  have hDm := mj_memD (b := b) (r := r) hD
  have hDa := mj_memU hDm
  have hge : ∀ q, (fun q => ∃ p, p < mm_nP ∧ q = mj_ad x mo o b r q1 q2 p) q → s.heap.size ≤ q := by
    rintro q ⟨p, hp, rfl⟩
    exact mj_memA hDm p hp
  have hAn : ∀ a : Nat, a < s.heap.size → ¬ (fun q => ∃ p, p < mm_nP ∧ q = mj_ad x mo o b r q1 q2 p) a := fun a h z => by have := hge a z; omega
  obtain ⟨M2, h1, h2⟩ := mq_law (L := L) (xs := xs) hL (mj_J0 g1 g2 g3)
  obtain ⟨n, hn⟩ := ms_12 (L := L) (xs := xs) (d := 15) (o := (.inl (some (.int 1)), M2)) (Nat.le_refl _) h1 rfl
  have hC : mm_Cx p room_1 s m #[Value.ref b] meth c D cs (fun q => ∃ p, p < mm_nP ∧ q = mj_ad x mo o b r q1 q2 p) (mj_ad x mo o b r q1 q2) L xs 12 15 := by
    refine ⟨⟨hx, hb, hml, hr, hlocks, hown, by rw [hext]; rfl⟩, ⟨fun w hw => hts w (List.mem_filter.mp hw).1, hK, ⟨hX, hbl, hAn b hbl, hE.1.narrow hge, hE.2.1.narrow hge⟩, fun q cell hq2 hc => ?_, mj_st0 hts hgv hAn⟩, by decide, by decide⟩
    have := hge q hq2
    have := (Array.getElem?_eq_some_iff.mp hc).1
    omega
  have hhas : mm_has (mj_ad x mo o b r q1 q2) [some (.ref 200), some (.ref 0), some (.ref 84), some (.ref 110), none, none, none] ls := by
    refine ⟨hl.1, hl.2.1, fun i v hv => ?_⟩
    match i, hv with
    | 0, hv => cases hv; exact lv_at hl 3 rfl
    | 1, hv => cases hv; exact lv_at hl 2 rfl
    | 2, hv => cases hv; exact lv_at hl 1 rfl
    | 3, hv => cases hv; exact lv_at hl 0 rfl
    | 4, hv => cases hv
    | 5, hv => cases hv
    | 6, hv => cases hv
    | i + 7, hv => simp at hv
  have h20 : M2.2.2 ≤ 600 := by
    have : (mj_M0 f89 f101).2.2 = 0 := rfl
    omega
  obtain ⟨t, a1, b1⟩ := mm_sound (l := l) (below := below) htr (fun q h => h) hDa n 15 12 20 _ [] (mj_M0 f89 f101) _ M2 hn (by decide) rfl (R := room_1) (locs := []) (cells := 111) (slots := 395888) (kc := 111 + M2.2.2) (ks := 395888 + 6 * M2.2.2) hC hhas hPm ⟨hz, fun q h _ => hq q h, fun _ h => by cases h⟩ rfl rfl (by show 111 + M2.2.2 ≤ 601024; omega) (by show 395888 + 6 * M2.2.2 ≤ 7293033; omega) T hT X
  obtain ⟨oc, Lw, s1, s2, s3, s4, s5, s6, -, -⟩ := b1
  have s3' : oc = .returned (some (.int 1)) := s3
  exact ⟨t, a1, oc, s1, s2, s3', ⟨_, s3'⟩, s4, s5.weaken (fun y hy hlt => absurd hlt (Nat.not_lt.mpr (hge _ (s6 y hy)))) (by omega) (by omega)⟩
set_option maxHeartbeats 4000000 in
set_option maxRecDepth 100000 in
theorem whole_start {p : Program} {e : Env} {s : State} {m : MethodId} {below : List Frame} {meth : Method} {c : Code} (l : Launch) (hfl : l.flags = flags0) {b L : Nat} {xs : Nat → Int32} (hL : L ≤ 3072) (C0 : lw_At p s m meth c b L xs) : W p l e room_1 s m #[Value.ref b] below meth c s.heap [] 0 0 (lw_Z below #[Value.ref b] s) (entryFrame m ([Value.ref b] : List Value).toArray 7) := by
  obtain ⟨hx, hb, hr, hml, hown, hts, hX, hbl, hlocks, hgv, hext⟩ := id C0
  have hown : s.vm.findClass (mm_cn 13) = some m.cls := hown
  have hg : ∀ w ∈ mj_tb, w.before #[Value.ref b] s = true := fun w hw => hts w (List.mem_filter.mp hw).1
  have hA : ∀ q : Nat, s.heap.size ≤ q → (fun q : Nat => s.heap.size ≤ q) q := fun _ h => h
  obtain ⟨D, cs, hK⟩ := mj_K0 hts
  obtain ⟨r, hE⟩ := mj_Ex0 hts hgv (A := fun q : Nat => s.heap.size ≤ q) (fun a h => Nat.not_le.mpr h)
  have hS : va_S (fun q : Nat => s.heap.size ≤ q) s.heap s.heap [] := va_S.rf
  have hP : va_P D mm_cl [] s.heap := fun k q h => by simp at h
  have hD : va_D (fun q : Nat => s.heap.size ≤ q) [] := ⟨fun i j p q h => by simp at h, fun k q h => by simp at h⟩
  have hl := lv_entry ([.ref b]) (n := 7) (Nat.le_of_ble_eq_true rfl)
  rw [lg_entry_eq]
  generalize (lg_sl ([.ref b]) ++ List.replicate (7 - (lg_sl ([.ref b])).length) Slot.unset).toArray = ls at hl ⊢
  have hl : lv_has ls 7 [(0, .ref b)] := hl
  refine mj_new (own := mm_cn 13) hx hb hg hown 0 11 (by decide) rfl (mj_g (mm_tb1 (j := 24) rfl)) hK hP hD hS hA mj_z0 (Nat.le_of_ble_eq_true rfl) (Nat.le_of_ble_eq_true rfl) mj_l0 (fun x H hP hD hS => ?_)
  refine W.widen (k := 1) (n := 11) (Nat.le_of_ble_eq_true rfl) (Nat.le_of_ble_eq_true rfl) ?_
  refine lv_dup hx hb mj_l3 rfl ?_
  refine mj_call (own := mm_cn 13) (wr := []) (rest := [.ref x]) (mj_k_packs l D cs r x) hx hb hml hown hg (mj_g (mm_tb1 (j := 28) rfl)) (mj_ini 0 (by decide)) (mj_g (mm_tb1 (j := 26) rfl)) (mj_g (mm_tb1 (j := 27) rfl)) rfl (by decide +kernel) ⟨Nat.le_of_ble_eq_true rfl, Nat.le_of_ble_eq_true rfl⟩ hl.1 rfl (Nat.le_of_ble_eq_true rfl) mj_l4 ⟨Nat.le_of_ble_eq_true rfl, Nat.le_of_ble_eq_true rfl⟩ hK hP hD hS hA hE (fun w H locs hw hP hD hS => ?_)
  obtain ⟨q1, rfl⟩ := hw
  refine W.widen (k := 84) (n := 195341) (Nat.le_of_ble_eq_true rfl) (Nat.le_of_ble_eq_true rfl) ?_
  refine lv_astore_n (lv' := [(1, .ref x), (0, .ref b)]) hx hb mj_l7 rfl hl (by decide) rfl (fun ls hl => ?_)
  refine mj_new (own := mm_cn 13) hx hb hg hown 12 58 (by decide) rfl (mj_g (mm_tb7 (j := 2) rfl)) hK hP hD hS hA mj_z12 (Nat.le_of_ble_eq_true rfl) (Nat.le_of_ble_eq_true rfl) mj_l8 (fun mo H hP hD hS => ?_)
  refine W.widen (k := 85) (n := 195399) (Nat.le_of_ble_eq_true rfl) (Nat.le_of_ble_eq_true rfl) ?_
  refine lv_dup hx hb mj_l11 rfl ?_
  refine mj_call (own := mm_cn 13) (wr := [] ++ mj_w_packs cs x q1) (rest := [.ref mo]) (mj_k_model l D cs r mo) hx hb hml hown hg (mj_g (mm_tb7 (j := 6) rfl)) (mj_ini 12 (by decide)) (mj_g (mm_tb7 (j := 4) rfl)) (mj_g (mm_tb7 (j := 5) rfl)) rfl (by decide +kernel) ⟨Nat.le_of_ble_eq_true rfl, Nat.le_of_ble_eq_true rfl⟩ hl.1 rfl (Nat.le_of_ble_eq_true rfl) mj_l12 ⟨Nat.le_of_ble_eq_true rfl, Nat.le_of_ble_eq_true rfl⟩ hK hP hD hS hA hE (fun w H locs hw hP hD hS => ?_)
  obtain ⟨q2, f89, f101, g1, g2, g3, rfl⟩ := hw
  refine W.widen (k := 110) (n := 395887) (Nat.le_of_ble_eq_true rfl) (Nat.le_of_ble_eq_true rfl) ?_
  refine lv_astore_n (lv' := [(2, .ref mo), (1, .ref x), (0, .ref b)]) hx hb mj_l15 rfl hl (by decide) rfl (fun ls hl => ?_)
  refine lv_iconst (v := 1) hx hb mj_l16 (by decide +kernel) ?_
  refine mj_newl hx hb hg hK hP hD hS hA (N := 1) (by decide +kernel) (by decide +kernel) (by decide +kernel) (Nat.le_of_ble_eq_true rfl) (Nat.le_of_ble_eq_true rfl) mj_l17 (fun o H hP hD hS => ?_)
  refine W.widen (k := 111) (n := 395888) (Nat.le_of_ble_eq_true rfl) (Nat.le_of_ble_eq_true rfl) ?_
  refine lv_astore_n (lv' := [(3, .ref o), (2, .ref mo), (1, .ref x), (0, .ref b)]) hx hb mj_l19 rfl hl (by decide) rfl (fun ls hl => ?_)
  refine va_forget hS.2.2 ?_
  exact mj_end l hfl hL C0 hK hE g1 g2 g3 hP hD hS.1 (fun q h => hS.2.1 q h (Nat.not_le.mpr h)) hl
set_option maxHeartbeats 4000000 in
theorem lw_walk (l : Launch) (hfl : l.flags = flags0) (b : Addr) (xs : List Int32) : MetFree l x (headSpec (Jvm.Cond.code x code maxLocals ret :: tables_1) room_1) (lw_P b xs) (fun _ _ _ _ _ => True) lw_Q := by
  refine MetFree.of_bodyS (code := code) (maxLocals := maxLocals) (ret := ret) (by decide) ?_ ?_
  · intro args s m h hn
    obtain ⟨meth, c, h1, h2, h3, h4, h5, h6, -, -⟩ := Cond.code_spec hn (atoms_spec (ws := Jvm.Cond.code x code maxLocals ret :: tables_1) h _ List.mem_cons_self)
    exact ⟨meth, c, h1, h2, h3, h4, h5, h6⟩
  · intro p e s m args below meth c s₁ B hml0 hP _
    obtain ⟨rfl, hx, hbd, hgv⟩ := hP
    obtain ⟨scr, harrAt, hlist, hof, hsmall⟩ := hx
    obtain ⟨hcb, hkn, -, -⟩ := State.arrayAt?_spec harrAt
    have hown : s.vm.findClass R_law = some m.cls := findClass_of_methodNamed B.named
    have hts0 : ∀ c ∈ (Jvm.Cond.code x code maxLocals ret :: tables_1), c.before #[Value.ref b] s = true := atoms_spec (ws := Jvm.Cond.code x code maxLocals ret :: tables_1) B.pre
    have hts : ∀ w ∈ lw_tbl, w.before #[Value.ref b] s = true := k2_hts_sels lw_privs (fun w hw => hts0 w (List.mem_cons_of_mem _ hw)) lw_privs_ok
    have hml : c.maxLocals = 7 := B.maxLocals_eq (hts0 _ List.mem_cons_self)
    have X₀ : Stand p l e room_1 s m #[Value.ref b] below meth c s₁ [] 0 0 := Stand.of_body B
    have hext : c.exceptionTable = #[] := by
      obtain ⟨meth2, c2, g1, g2, -, -, -, -, g7, -⟩ := Cond.code_spec B.named (hts0 _ List.mem_cons_self)
      have e1 : meth2 = meth := Option.some.inj (g1.symm.trans B.method)
      rw [e1] at g2
      have e2 : c2 = c := Option.some.inj (g2.symm.trans X₀.code)
      rw [e2] at g7
      simpa using g7
    have hh0 : s₁.heap = s.heap := by rw [B.state]; rfl
    have hsz : scr.slots.size = xs.length := by rw [← Array.length_toList, hlist, List.length_map]
    have hval : ∀ j : Nat, j < xs.length → scr.slots[j]? = some (.int (xs.getD j 0)) := fun j hj => by
      rw [← Array.getElem?_toList, hlist]
      simp [hj]
    have hbl : b < s.heap.size := (Array.getElem?_eq_some_iff.mp hcb).1
    have hX : va_X b xs.length (fun j => xs.getD j 0) s s.heap := ⟨scr, hcb, hof, hkn, hsz, hval⟩
    have K : W p l e room_1 s m #[Value.ref b] below meth c s₁.heap [] 0 0 (lw_Z below #[Value.ref b] s) (entryFrame m ([Value.ref b] : List Value).toArray 7) := by
      rw [hh0]
      exact whole_start l hfl hbd ⟨B.exec, B.bytes, B.returns, hml, hown, hts, hX, hbl, B.notSynchronized, hgv, hext⟩
    obtain ⟨t, a1, o, b1, b2, b3⟩ := K s₁ rfl X₀
    exact ⟨t, o, a1, b1, b2, b3⟩
theorem lw_pre_spec {args : Array Value} {s : State} (h : (Jvm.Cond.and given_1 narrow_1).before args s = true) (hr : rest_1_c.before args s = true) : ∃ (b : Addr) (xs : List Int32), lw_P b xs args s := by
  have hs := flat_of_before _ h
  have hq := flat_of_before _ hr
  have hc : (Cond.count 1).before args s = true := hs _ (by decide +kernel)
  have harr : (Cond.arrayOf (.arg 0) .int).before args s = true := hs _ (by decide +kernel)
  have hle : (Cond.le (.length (.arg 0)) (.int 3072)).before args s = true := hs _ (by decide +kernel)
  have hlen : (Cond.isInt (.length (.arg 0))).before args s = true := hq _ (by decide +kernel)
  have hall : (Cond.all (.arg 0) (.isInt (.elem (.arg 0) (.index 0)))).before args s = true := hq _ (by decide +kernel)
  obtain ⟨b, xs, hb, hx⟩ := State.ints_of_pre rfl harr hlen hall
  have hsm : xs.length < 2 ^ 31 := hx.choose_spec.2.2.2
  have hev : (Term.length (.arg 0)).eval args s none [] s = some (.int xs.length.toInt32) := hx.length_eval hb
  have hv := Cond.le_ints hev (show (Term.int 3072).eval args s none [] s = some (.int 3072) from rfl)
  have hd : xs.length.toInt32 ≤ 3072 := by
    simpa [Cond.before, Cond.holds, hv] using hle
  have hN : xs.length ≤ 3072 := (Int32.ofNat_le_ofNat hsm (by decide)).mp (show Int32.ofNat xs.length ≤ Int32.ofNat 3072 from hd)
  exact ⟨b, xs, Cond.one_arg hc (show args[0]? = some (.ref b) from hb), hx, hN, h⟩
theorem lw_comes (l : Launch) (hfl : l.flags = flags0) : Comes l x (Jvm.Cond.code x code maxLocals ret :: tables_1) room_1 (fun tb e args s => Calls_1 tb e args s ∧ rest_1 tb e args s ∧ Pre_1 tb e args s)
    (fun _ _ args s o t => lw_Q args s o t) := by
  intro p e ha hc hk s m args below hf hfit hheap happ hpre
  obtain ⟨b, xs, hP⟩ := lw_pre_spec hpre.2.2 hpre.2.1
  obtain ⟨k, o, h1, h2, h3, hQ⟩ := lw_walk l hfl b xs p e ha hc hk s m args below hf ((Spec.applies_iff_loose hf).mp happ).1 hP trivial
  exact ⟨k, o, h1, h2, h3, hQ⟩
theorem lw_frame {s t : State} {o : Outcome} {args : Array Value} (h : Framed s o t [] 601024 7293033) :
    Framed s o t (fieldLocs frame_1_writes args s ++ arrayLocs frame_1_arrays args s ++ staticLocs frame_1_statics s) 601024 7293033 := h
theorem lw_limb (L : Cond) (hL : ∀ (args : Array Value) (s t : State), L.after args s (.returned (some (.int 1))) t = true) :
    ArmFor flags0 classFile x code maxLocals ret World_1 tables_1 room_1 Calls_1 rest_1 Pre_1
      (fun tb e a s o t => postC L tb e a s o t ∧ Framed s o t (fieldLocs frame_1_writes a s ++ arrayLocs frame_1_arrays a s ++ staticLocs frame_1_statics s) 601024 7293033) := by
  intro l hfl _ _ p e ha hc hk s m args below hf hfit hheap happ hpre
  obtain ⟨k, o, h1, h2, h3, rfl, hF⟩ := lw_comes l hfl p e ha hc hk s m args below hf hfit hheap happ hpre
  exact ⟨k, _, h1, h2, h3, hL args s _, lw_frame hF⟩
