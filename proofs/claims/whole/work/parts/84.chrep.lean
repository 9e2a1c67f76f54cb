/-! FORM 10: repeats, in step -/
/-- the reference's road of a long repeat -/
noncomputable def mq_RL (n : Int64) (r1 : Int32) (M2 : mm_M) : mm_O Int32 := if (M2.1 84 35) < (7 : Int32) then (mf_238_j450 n r1 (mm_pi M2 84 35 (8 : Int32))) else (mf_238_j450 n r1 (mm_pi M2 84 35 (11 : Int32)))
theorem mq_RLd {M N : mm_M} {n : Int64} {r : Int32} (hx : mq_X M N) : mq_1 (mq_RL n r N) (fun _ N2 => mq_X M N2) := by
  unfold mq_RL
  exact mq_1_ite (fun _ => mq_xd (mq_X_pi hx rfl) (fun z => md_238_j450 z mq_ob_refl)) (fun _ => mq_xd (mq_X_pi hx rfl) (fun z => md_238_j450 z mq_ob_refl))
theorem mq_crlen {M N : mm_M} {lc lp pb st r0 r1 r2 r3 p : Int32} {n : Int64} {P : Nat} (hW : mq_W M N) (hc : mq_cx M N) (hz : mq_cz lc lp pb n st r0 r1 r2 r3 M N) (hd : mq_cd lc lp pb n st r0 r1 r2 r3 (M.1 3 1).toInt) (hr : r0.toInt ≤ (M.1 3 1).toInt) (hp : p.toInt = P) (hP : P < 16) : mq_2 mq_XE (mf_167_j94 p 0 M) (mm_B (mf_242 946 p N) (mq_RL n)) (fun _ M2 b N2 => b = 1 ∧ mq_cI lc lp pb n (M.1 3 1).toInt M2 N2) := by
  obtain ⟨d1, ⟨n0, n1⟩, ⟨d3, d3'⟩, d4, d5, d6, d7, d8, d9⟩ := hd
  unfold mf_167_j94
  rw [if_pos rfl]
  refine mq_clen (F := 946) hW hc rfl (.inr rfl) hp hP ?_ (fun len M2 N2 hx => mq_RLd hx)
  intro len M2 N2 l0 l1 w2 c2 k1 k2
  obtain ⟨u1, u2, u3, u4⟩ := w2.1.2.1
  have hz2 := mq_cz_kp hz k1 k2 rfl rfl rfl
  have hsz : M2.1 3 1 = M.1 3 1 := (k1 3 1 rfl).1
  have hz20 := hz2
  obtain ⟨⟨z1, z2, z3, z4, z5, z6, z7, z8, z9⟩, y1, y2, y3, y4, y5, y6, y7, y8⟩ := hz20
  unfold mq_RL
  rw [y4]
  have key : ∀ s1 : Int32, 0 ≤ s1.toInt → s1.toInt ≤ 11 → (∀ M3 : mm_M, (if (M3.1 80 9) < (7 : Int32) then (mf_167_j160 len (8 : Int32) M3) else (mf_167_j160 len (11 : Int32) M3)) = mf_167_j160 len s1 M3 ∨ M3.1 80 9 ≠ st) → mq_2 mq_XE (mm_B (mf_169_j74 len M2) (fun r1 M2 => if (M2.1 80 9) < (7 : Int32) then (mf_167_j160 r1 (8 : Int32) M2) else (mf_167_j160 r1 (11 : Int32) M2))) (mf_238_j450 n len (mm_pi N2 84 35 s1)) (fun _ M2 b N2 => b = 1 ∧ mq_cI lc lp pb n (M.1 3 1).toInt M2 N2) := by
    intro s1 t0 t1 hs
    have w2' : mq_W (mm_pi M2 80 9 s1) (mm_pi N2 84 35 s1) := w2
    rcases mq_croom (M := M2) (N := mm_pi N2 84 35 s1) (len := len) (n := n) u1 u2 u3 z4 n0 n1 (by omega) (by omega) w2.1.2.2.2.2.1 with ⟨e1, e2, hroom⟩ | ⟨e1, e2⟩
    · rw [e1, mq_Bs]
      rcases hs M2 with q | q
      · rw [q]
        unfold mf_167_j160
        rw [z6]
        have hcc := mq_ccopy (M := mm_pi M2 80 9 s1) (N := mm_pi N2 84 35 s1) (lc := lc) (lp := lp) (pb := pb) (st := s1) (r0 := r0) (r1 := r1) (r2 := r2) (r3 := r3) (len := len) (n := n) w2' c2 ⟨⟨z1, z2, z3, z4, rfl, z6, z7, z8, z9⟩, y1, y2, y3, rfl, y5, y6, y7, y8⟩ ⟨d1, ⟨n0, n1⟩, ⟨t0, t1⟩, d4, d5, d6, d7, fun _ => by show _ ≤ (M2.1 3 1).toInt; rw [hsz]; exact hr, fun q => by show (M2.1 3 1).toInt ≤ _; rw [hsz]; exact d9 q⟩ (show _ ≤ (M2.1 3 1).toInt from by rw [hsz]; exact hr) (by omega) (by omega) hroom
        refine mq_2_Bl' hcc (fun a M3 b N3 q => ⟨(), rfl, q.1, ?_⟩)
        have q2 : mq_cI lc lp pb n (M2.1 3 1).toInt M3 N3 := q.2
        rw [hsz] at q2
        exact q2
      · exact absurd z5 q
    · rw [e1, mq_Bt]
      unfold mf_238_j450
      rw [e2, mq_Bs, if_pos (show mm_in 0 4 = true from by decide)]
      have hx : mq_X (mm_th M2) (mm_pi (mm_pi N2 84 35 s1) 84 7 1) := mq_X_th (mq_W_bad (N := mm_pi N2 84 35 s1) w2)
      obtain ⟨x, N3, e, hx3⟩ := mq_xd hx (fun z => md_196 (v := len) (d := (mm_pi (mm_pi N2 84 35 s1) 84 7 1).2.1 99 (0 : Int32).toNatClampNeg) (f := 0) z)
      rw [e, mq_Bs]
      exact mq_2_thr hx3
  by_cases g : st < 7
  · rw [if_pos g]
    refine key 8 (by decide) (by decide) (fun M3 => ?_)
    by_cases q : M3.1 80 9 = st
    · left; rw [q, if_pos g]
    · exact .inr q
  · rw [if_neg g]
    refine key 11 (by decide) (by decide) (fun M3 => ?_)
    by_cases q : M3.1 80 9 = st
    · left; rw [q, if_neg g]
    · exact .inr q
/-- a single byte again -/
theorem mq_crone {M N : mm_M} {lc lp pb st r0 r1 r2 r3 p : Int32} {n : Int64} (hW : mq_W M N) (hc : mq_cx M N) (hz : mq_cz lc lp pb n st r0 r1 r2 r3 M N) (hd : mq_cd lc lp pb n st r0 r1 r2 r3 (M.1 3 1).toInt) (hr : r0.toInt ≤ (M.1 3 1).toInt) (hne : (M.1 3 1).toInt ≠ n.toInt) : mq_2 mq_XE (mf_167_j94 p 1 M) (mf_238_j282 n 1 1 N) (fun _ M2 b N2 => b = 1 ∧ mq_cI lc lp pb n (M.1 3 1).toInt M2 N2) := by
  obtain ⟨d1, ⟨n0, n1⟩, ⟨d3, d3'⟩, d4, d5, d6, d7, d8, d9⟩ := hd
  have hz20 := hz
  obtain ⟨⟨z1, z2, z3, z4, z5, z6, z7, z8, z9⟩, y1, y2, y3, y4, y5, y6, y7, y8⟩ := hz20
  unfold mf_167_j94 mf_238_j282
  rw [if_neg (show ¬ (1 : Int32) = 0 from by decide), if_neg (show ¬ (1 : Int32) = 0 from by decide), z5, y4]
  have key : ∀ s1 : Int32, 0 ≤ s1.toInt → s1.toInt ≤ 11 → mq_2 mq_XE (mf_167_j115 s1 M) (mf_238_j450 n 1 (mm_pi N 84 35 s1)) (fun _ M2 b N2 => b = 1 ∧ mq_cI lc lp pb n (M.1 3 1).toInt M2 N2) := by
    intro s1 t0 t1
    unfold mf_167_j115
    rw [z6]
    have hcc := mq_ccopy (M := mm_pi M 80 9 s1) (N := mm_pi N 84 35 s1) (lc := lc) (lp := lp) (pb := pb) (st := s1) (r0 := r0) (r1 := r1) (r2 := r2) (r3 := r3) (len := 1) (n := n) hW hc ⟨⟨z1, z2, z3, z4, rfl, z6, z7, z8, z9⟩, y1, y2, y3, rfl, y5, y6, y7, y8⟩ ⟨d1, ⟨n0, n1⟩, ⟨t0, t1⟩, d4, d5, d6, d7, fun _ => hr, d9⟩ hr (by decide) (by decide) (fun q => by show (M.1 3 1).toInt + _ ≤ _; have := d9 q; simp only [Int32.reduceToInt]; omega)
    exact mq_2_Bl' hcc (fun a M3 b N3 q => ⟨(), rfl, q.1, q.2⟩)
  by_cases g : st < 7
  · rw [if_pos g, if_pos g]; exact key 9 (by decide) (by decide)
  · rw [if_neg g, if_neg g]; exact key 11 (by decide) (by decide)
theorem mq_239 {N : mm_M} {s : Int32} {r : Int32} (w : N.1 84 7 = 0) (hs : mm_in s 4 = true) (hr : N.2.1 99 s.toNatClampNeg = r.toInt64) : mf_239 s N = if (N.1 84 4).toInt < r.toInt then some (.inl (), mm_pi N 84 7 1) else some (.inl (), N) := by
  unfold mf_239
  rw [if_pos w, if_pos hs, hr]
  by_cases c : (N.1 84 4).toInt < r.toInt
  · rw [if_pos c, if_pos (by rw [Int64.lt_iff_toInt_lt, Int32.toInt_toInt64, Int32.toInt_toInt64]; exact c)]
    rfl
  · rw [if_neg c, if_neg (by rw [Int64.lt_iff_toInt_lt, Int32.toInt_toInt64, Int32.toInt_toInt64]; exact c)]
/-- an earlier distance is brought to the front -/
theorem mq_cfront {M N : mm_M} {lc lp pb st r0 r1 r2 r3 p : Int32} {n : Int64} {P : Nat} {q0 q1 q2 q3 s0 : Int32} {M' N' : mm_M} (hW : mq_W M N) (hc : mq_cx M N) (hz : mq_cz lc lp pb n st r0 r1 r2 r3 M N) (hd : mq_cd lc lp pb n st r0 r1 r2 r3 (M.1 3 1).toInt) (hp : p.toInt = P) (hP : P < 16) (hs0 : mm_in s0 4 = true) (hs : N.2.1 99 s0.toNatClampNeg = q0.toInt64) (hL : ∀ d, mf_238_L385 n p d s0 N = some (.inl (), N')) (kM : mq_kp [(80, some 10), (80, some 11), (80, some 12), (80, some 13)] M M') (e10 : M'.1 80 10 = q0) (e11 : M'.1 80 11 = q1) (e12 : M'.1 80 12 = q2) (e13 : M'.1 80 13 = q3) (kN' : mq_kp [(99, none)] N N') (e1 : N'.2.1 99 1 = q1.toInt64) (e2 : N'.2.1 99 2 = q2.toInt64) (e3 : N'.2.1 99 3 = q3.toInt64) (b0 : 1 ≤ q0.toInt ∧ q0.toInt ≤ 16384) (b1 : 1 ≤ q1.toInt ∧ q1.toInt ≤ 16384) (b2 : 1 ≤ q2.toInt ∧ q2.toInt ≤ 16384) (b3 : 1 ≤ q3.toInt ∧ q3.toInt ≤ 16384) : mq_2 mq_XE (if (M'.1 3 1) < (M'.1 80 10) then (mf_167_j91 p (0 : Int32) (1 : Int32) M') else (mf_167_j91 p (0 : Int32) (0 : Int32) M')) (mf_238_j364 n p s0 N) (fun _ M2 b N2 => b = 1 ∧ mq_cI lc lp pb n (M.1 3 1).toInt M2 N2) := by
  obtain ⟨d1, ⟨n0, n1⟩, ⟨d3, d3'⟩, d4, d5, d6, d7, d8, d9⟩ := hd
  have hz20 := hz
  obtain ⟨⟨z1, z2, z3, z4, z5, z6, z7, z8, z9⟩, y1, y2, y3, y4, y5, y6, y7, y8⟩ := hz20
  obtain ⟨u1, u2, u3, u4⟩ := hW.1.2.1
  have e31 : M'.1 3 1 = M.1 3 1 := (kM 3 1 rfl).1
  unfold mf_238_j364 mf_167_j91
  rw [mq_239 hW.1.2.2.2.2.1 hs0 hs, e31, e10, ← u1]
  by_cases c : (M.1 3 1).toInt < q0.toInt
  · rw [if_pos (show M.1 3 1 < q0 from by rw [Int32.lt_iff_toInt_lt]; exact c), if_pos c, mq_27t, mq_Bt, mq_Bs, if_pos hs0]
    have hx : mq_X (mm_th M') (mm_pi N 84 7 1) := by
      have hS := (mq_S_kp (w2 := []) hW.1 kM (mq_kp_refl (M := N)) rfl rfl).1
      exact mq_X_th (mq_S_bad hS)
    have hs0' : s0 = 0 ∨ s0 = 1 ∨ s0 = 2 ∨ s0 = 3 := by
      rw [mq_in] at hs0
      have h : s0.toInt = 0 ∨ s0.toInt = 1 ∨ s0.toInt = 2 ∨ s0.toInt = 3 := by omega
      rcases h with h | h | h | h
      · exact .inl (Int32.toInt_inj.mp h)
      · exact .inr (.inl (Int32.toInt_inj.mp h))
      · exact .inr (.inr (.inl (Int32.toInt_inj.mp h)))
      · exact .inr (.inr (.inr (Int32.toInt_inj.mp h)))
    have dead : ∀ N3 : mm_M, mq_ob (mm_pi N 84 7 1) N3 → ∃ b N4, mf_238_j412 n p ((mm_pi N 84 7 1).2.1 99 s0.toNatClampNeg) N3 = some (.inl b, N4) ∧ mq_X (mm_th M') N4 := by
      intro N3 g
      obtain ⟨b, N4, e, o⟩ := md_238_j412 (v1 := n) (v3 := p) (v6 := (mm_pi N 84 7 1).2.1 99 s0.toNatClampNeg) (mq_X_Z hx) g
      exact ⟨b, N4, e, mq_X_ob hx o⟩
    have l0 : ∀ (a c : Int64) (b : Int32) (M : mm_M), mf_238_L385 a b c 0 M = some (.inl (), M) := by
      intro a c b M
      unfold mf_238_L385
      rw [mm_L_eq]
      rfl
    rcases hs0' with rfl | rfl | rfl | rfl
    · rw [l0, mq_Bs]
      obtain ⟨b, N4, e, hx4⟩ := dead _ mq_ob_refl
      rw [e]
      exact mq_2_thr hx4
    · rw [mq_L385_1, mq_Bs]
      obtain ⟨b, N4, e, hx4⟩ := dead _ (mq_ob_pl mq_ob_refl)
      rw [e]
      exact mq_2_thr hx4
    · rw [mq_L385_2, mq_Bs]
      obtain ⟨b, N4, e, hx4⟩ := dead _ (mq_ob_pl (mq_ob_pl mq_ob_refl))
      rw [e]
      exact mq_2_thr hx4
    · rw [mq_L385_3, mq_Bs]
      obtain ⟨b, N4, e, hx4⟩ := dead _ (mq_ob_pl (mq_ob_pl (mq_ob_pl mq_ob_refl)))
      rw [e]
      exact mq_2_thr hx4
  · rw [if_neg (show ¬ M.1 3 1 < q0 from by rw [Int32.lt_iff_toInt_lt]; exact c), if_neg c, mq_27, mq_Bs, mq_Bs, if_pos hs0, hL, mq_Bs, hs]
    unfold mf_238_j412 mf_238_j447
    rw [if_pos (show mm_in 0 4 = true from by decide), show (0 : Int32).toNatClampNeg = 0 from rfl]
    have kN : mq_kp [(99, none)] N (mm_pl N' 99 0 q0.toInt64) := mq_kp_pl kN' rfl
    have hS := (mq_S_kp hW.1 kM kN rfl rfl).1
    have hW' : mq_W M' (mm_pl N' 99 0 q0.toInt64) := ⟨hS, by rw [(kN 84 15 rfl).1]; exact hW.2⟩
    have hc' : mq_cx M' (mm_pl N' 99 0 q0.toInt64) := mq_cx_kp hc kM kN rfl rfl rfl rfl rfl rfl
    have hz' : mq_cz lc lp pb n st q0 q1 q2 q3 M' (mm_pl N' 99 0 q0.toInt64) := by
      refine ⟨⟨?_, ?_, ?_, ?_, ?_, e10, e11, e12, e13⟩, ?_, ?_, ?_, ?_, ?_, ?_, ?_, ?_⟩
      · rw [(kM 80 6 rfl).1]; exact z1
      · rw [(kM 80 7 rfl).1]; exact z2
      · rw [(kM 80 8 rfl).1]; exact z3
      · rw [(kM 80 14 rfl).2]; exact z4
      · rw [(kM 80 9 rfl).1]; exact z5
      · rw [(kN 84 37 rfl).1]; exact y1
      · rw [(kN 84 38 rfl).1]; exact y2
      · rw [(kN 84 39 rfl).1]; exact y3
      · rw [(kN 84 35 rfl).1]; exact y4
      · rw [mq_pls]
      · rw [mq_plj (by decide)]; exact e1
      · rw [mq_plj (by decide)]; exact e2
      · rw [mq_plj (by decide)]; exact e3
    have hd' : mq_cd lc lp pb n st q0 q1 q2 q3 (M'.1 3 1).toInt := by
      rw [e31]
      exact ⟨d1, ⟨n0, n1⟩, ⟨d3, d3'⟩, b0, b1, b2, b3, fun _ => by omega, d9⟩
    have := mq_crlen hW' hc' hz' hd' (by rw [e31]; omega) hp hP
    rw [e31] at this
    exact this
