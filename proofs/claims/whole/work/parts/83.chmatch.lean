/-! FORM 10: a match, in step -/
def mq_cI (lc lp pb : Int32) (n : Int64) (sz : Int) (M N : mm_M) : Prop := mq_W M N ∧ mq_cx M N ∧ sz < (M.1 3 1).toInt ∧ ∃ st r0 r1 r2 r3, mq_cz lc lp pb n st r0 r1 r2 r3 M N ∧ mq_cd lc lp pb n st r0 r1 r2 r3 (M.1 3 1).toInt
theorem mq_240ok {N : mm_M} {len : Int32} {n : Int64} (s0 : 0 ≤ (N.1 84 4).toInt) (s1 : (N.1 84 4).toInt ≤ 16384) (n0 : -1 ≤ n.toInt) (n1 : n.toInt ≤ 16384) (h : 0 ≤ n.toInt → (N.1 84 4).toInt + len.toInt ≤ n.toInt) (w : N.1 84 7 = 0) : mf_240 len n N = some (.inl (), N) := by
  unfold mf_240
  rw [if_pos w]
  have e2 : (n - (N.1 84 4).toInt64).toInt = n.toInt - (N.1 84 4).toInt := by rw [mj_sub, Int32.toInt_toInt64]; omega
  by_cases c : n < 0
  · rw [if_pos c]
  · rw [if_neg c]
    rw [Int64.lt_iff_toInt_lt] at c
    simp only [Int64.reduceToInt] at c
    have := h (by omega)
    rw [if_neg (show ¬ n - (N.1 84 4).toInt64 < len.toInt64 from by rw [Int64.lt_iff_toInt_lt, Int32.toInt_toInt64]; omega)]
theorem mq_ccopy {M N : mm_M} {lc lp pb st r0 r1 r2 r3 len : Int32} {n : Int64} (hW : mq_W M N) (hc : mq_cx M N) (hz : mq_cz lc lp pb n st r0 r1 r2 r3 M N) (hd : mq_cd lc lp pb n st r0 r1 r2 r3 (M.1 3 1).toInt) (hr : r0.toInt ≤ (M.1 3 1).toInt) (l0 : 1 ≤ len.toInt) (l1 : len.toInt ≤ 1000) (hroom : 0 ≤ n.toInt → (M.1 3 1).toInt + len.toInt ≤ n.toInt) : mq_2 mq_XE (mf_53 len r0.toInt64 M) (mf_238_j450 n len N) (fun _ M2 b N2 => b = 1 ∧ mq_cI lc lp pb n (M.1 3 1).toInt M2 N2) := by
  obtain ⟨d1, ⟨n0, n1⟩, d3, d4, d5, d6, d7, d8, d9⟩ := hd
  obtain ⟨u1, u2, u3, u4⟩ := hW.1.2.1
  unfold mf_238_j450
  rw [mq_240ok (by rw [← u1]; exact u2) (by rw [← u1]; exact u3) n0 n1 (by rw [← u1]; exact hroom) hW.1.2.2.2.2.1, mq_Bs, if_pos (show mm_in 0 4 = true from by decide), show (0 : Int32).toNatClampNeg = 0 from rfl, hz.2.2.2.2.2.1]
  refine mq_2_Br' (mq_2_K (mq_copy (M := M) (N := N) (len := len) (dist := r0.toInt64) (fl := 0) hW.1 (by omega) (by omega) (by rw [Int32.toInt_toInt64]; omega) (.inl rfl)) mk_53 mk_196) ?_ ?_
  · rintro _ M2 _ N2 ⟨⟨s1, s2, _⟩, k1, k2⟩
    refine ⟨_, rfl, rfl, ⟨s1, by rw [(k2 84 15 rfl).1]; exact hW.2⟩, mq_cx_kp hc k1 k2 rfl rfl rfl rfl rfl rfl, by omega, st, r0, r1, r2, r3, mq_cz_kp hz k1 k2 rfl rfl rfl, d1, ⟨n0, n1⟩, d3, d4, d5, d6, d7, fun _ => by omega, fun q => by have := hroom q; omega⟩
  · rintro M2 b N2 ⟨hx, _, _⟩
    exact ⟨_, _, rfl, hx⟩
/-- the reference's road of a match -/
noncomputable def mq_R242 (n : Int64) (r6 : Int32) (M7 : mm_M) : mm_O Int32 := mm_B (mf_240 r6 n M7) (fun _ M8 => if (M8.1 84 7) = 0 then (mm_B (mf_243 r6 M8) (fun r9 M10 => mm_B (mf_238_L136 n r6 r9 (3 : Int32) M10) (fun r12 M11 => mf_238_j163 n r6 r9 M11))) else (mm_B (mf_238_L136 n r6 (1 : Int64) (3 : Int32) M8) (fun r19 M18 => mf_238_j163 n r6 (1 : Int64) M18)))
theorem mq_R242w {M N : mm_M} {n : Int64} {r : Int32} {y : Int64} (hx : mq_X M N) : mq_1 (mm_B (mf_238_L136 n r y (3 : Int32) N) (fun r19 M18 => mf_238_j163 n r y M18)) (fun _ N2 => mq_X M N2) := by
  rw [mq_L136, mq_Bs]
  exact mq_xd (A := N) hx (fun z => md_238_j163 z (mq_ob_pl (mq_ob_pl (mq_ob_pl mq_ob_refl))))
theorem mq_R242d {M N : mm_M} {n : Int64} {r : Int32} (hx : mq_X M N) : mq_1 (mq_R242 n r N) (fun _ N2 => mq_X M N2) := by
  unfold mq_R242
  refine mq_1_B (mq_xd hx (fun z => md_240 z)) (fun _ N2 hx => ?_)
  rw [if_neg (by rw [hx.2.2.2.1]; decide)]
  exact mq_R242w hx
theorem mq_pls {M : mm_M} {p i : Nat} {v : Int64} : (mm_pl M p i v).2.1 p i = v := by rw [mq_p4, if_pos rfl, if_pos rfl]
theorem mq_plj {M : mm_M} {p i j : Nat} {v : Int64} (h : j ≠ i) : (mm_pl M p i v).2.1 p j = M.2.1 p j := by rw [mq_p4, if_pos rfl, if_neg h]
theorem mq_cmatch2 {M N : mm_M} {lc lp pb st r0 r1 r2 r3 len s1 : Int32} {n d : Int64} (hW : mq_W M N) (hc : mq_cx M N) (hz : mq_cz lc lp pb n st r0 r1 r2 r3 M N) (hd : mq_cd lc lp pb n st r0 r1 r2 r3 (M.1 3 1).toInt) (d0 : 1 ≤ d.toInt) (l0 : 2 ≤ len.toInt) (l1 : len.toInt ≤ 273) (hroom : 0 ≤ n.toInt → (M.1 3 1).toInt + len.toInt ≤ n.toInt) (t0 : 0 ≤ s1.toInt) (t1 : s1.toInt ≤ 11) (hs1 : ∀ {β : Type} {a b : mm_O β}, s1 = 7 ∧ st < 7 ∨ s1 = 10 ∧ ¬ st < 7) : mq_2 mq_XE (mf_166_j34 len d M) (mf_238_j450 n len (mm_pi (mm_pl (mm_pl (mm_pl (mm_pl N 99 3 (N.2.1 99 2)) 99 2 (N.2.1 99 1)) 99 1 (N.2.1 99 0)) 99 0 d) 84 35 s1)) (fun r M2 b N2 => r = 1 ∧ b = 1 ∧ mq_cI lc lp pb n (M.1 3 1).toInt M2 N2) := by
  have hd0 := hd
  obtain ⟨d1, ⟨n0, n1⟩, d3, d4, d5, d6, d7, d8, d9⟩ := hd
  have hU0 := hW.1.2.1
  obtain ⟨u1, u2, u3, u4⟩ := hW.1.2.1
  have hz0 := hz
  obtain ⟨⟨z1, z2, z3, z4, z5, z6, z7, z8, z9⟩, y1, y2, y3, y4, y5, y6, y7, y8⟩ := hz0
  unfold mf_166_j34
  by_cases c : (M.1 3 1).toInt64 < d
  · rw [if_pos c]
    rw [Int64.lt_iff_toInt_lt, Int32.toInt_toInt64] at c
    unfold mf_166_j52 mf_238_j450
    have g := mq_240ok (N := mm_pi (mm_pl (mm_pl (mm_pl (mm_pl N 99 3 (N.2.1 99 2)) 99 2 (N.2.1 99 1)) 99 1 (N.2.1 99 0)) 99 0 d) 84 35 s1) (len := len) (n := n) (show 0 ≤ (N.1 84 4).toInt from by rw [← u1]; exact u2) (show (N.1 84 4).toInt ≤ 16384 from by rw [← u1]; exact u3) n0 n1 (show _ → (N.1 84 4).toInt + _ ≤ _ from by rw [← u1]; exact hroom) hW.1.2.2.2.2.1
    rw [g, mq_Bs, if_pos (show mm_in 0 4 = true from by decide), mq_27t, mq_Bt, show (0 : Int32).toNatClampNeg = 0 from rfl]
    have e0 : (mm_pi (mm_pl (mm_pl (mm_pl (mm_pl N 99 3 (N.2.1 99 2)) 99 2 (N.2.1 99 1)) 99 1 (N.2.1 99 0)) 99 0 d) 84 35 s1).2.1 99 0 = d := rfl
    rw [e0, mq_196bad (N := mm_pi (mm_pl (mm_pl (mm_pl (mm_pl N 99 3 (N.2.1 99 2)) 99 2 (N.2.1 99 1)) 99 1 (N.2.1 99 0)) 99 0 d) 84 35 s1) hW.1.2.2.2.2.1 (show (N.1 84 4).toInt < d.toInt from by rw [← u1]; exact c), mq_Bs]
    exact mq_2_thr (mq_X_th (mq_W_bad (N := mm_pi (mm_pl (mm_pl (mm_pl (mm_pl N 99 3 (N.2.1 99 2)) 99 2 (N.2.1 99 1)) 99 1 (N.2.1 99 0)) 99 0 d) 84 35 s1) hW))
  · rw [if_neg c]
    rw [Int64.lt_iff_toInt_lt, Int32.toInt_toInt64] at c
    have hd32 : d.toInt32.toInt = d.toInt := by rw [Int64.toInt_toInt32, mi_bm]; omega
    have hdd : d.toInt32.toInt64 = d := Int64.toInt_inj.mp (by rw [Int32.toInt_toInt64, hd32])
    unfold mf_166_j52
    rw [mq_27, mq_Bs, z5]
    have hcc := mq_ccopy (M := mm_pi (mm_pi (mm_pi (mm_pi (mm_pi M 80 13 (M.1 80 12)) 80 12 (M.1 80 11)) 80 11 (M.1 80 10)) 80 10 d.toInt32) 80 9 s1) (N := mm_pi (mm_pl (mm_pl (mm_pl (mm_pl N 99 3 (N.2.1 99 2)) 99 2 (N.2.1 99 1)) 99 1 (N.2.1 99 0)) 99 0 d) 84 35 s1) (lc := lc) (lp := lp) (pb := pb) (st := s1) (r0 := d.toInt32) (r1 := r0) (r2 := r1) (r3 := r2) (len := len) (n := n) hW hc ⟨⟨z1, z2, z3, z4, rfl, rfl, z6, z7, z8⟩, y1, y2, y3, rfl, hdd.symm, y5, y6, y7⟩ ⟨d1, ⟨n0, n1⟩, ⟨t0, t1⟩, ⟨by omega, by omega⟩, d4, d5, d6, fun _ => by show _ ≤ (M.1 3 1).toInt; omega, d9⟩ (show _ ≤ (M.1 3 1).toInt from by omega) (by omega) (by omega) hroom
    have fin : mq_2 mq_XE (mf_166_j102 len s1 (mm_pi (mm_pi (mm_pi (mm_pi M 80 13 (M.1 80 12)) 80 12 (M.1 80 11)) 80 11 (M.1 80 10)) 80 10 d.toInt32)) (mf_238_j450 n len (mm_pi (mm_pl (mm_pl (mm_pl (mm_pl N 99 3 (N.2.1 99 2)) 99 2 (N.2.1 99 1)) 99 1 (N.2.1 99 0)) 99 0 d) 84 35 s1)) (fun r M2 b N2 => r = 1 ∧ b = 1 ∧ mq_cI lc lp pb n (M.1 3 1).toInt M2 N2) := by
      unfold mf_166_j102
      exact mq_2_Bl' hcc (fun a M2 b N2 q => ⟨1, rfl, rfl, q.1, q.2⟩)
    rcases hs1 (β := Unit) (a := none) (b := none) with ⟨rfl, q⟩ | ⟨rfl, q⟩
    · rw [if_pos q]; exact fin
    · rw [if_neg q]; exact fin
theorem mq_cmatch {M N : mm_M} {lc lp pb st r0 r1 r2 r3 p : Int32} {n : Int64} {P : Nat} (hW : mq_W M N) (hc : mq_cx M N) (hz : mq_cz lc lp pb n st r0 r1 r2 r3 M N) (hd : mq_cd lc lp pb n st r0 r1 r2 r3 (M.1 3 1).toInt) (hp : p.toInt = P) (hP : P < 16) : mq_2 mq_XE (mf_166 p M) (mm_B (mf_242 432 p N) (mq_R242 n)) (fun r M2 b N2 => r = b ∧ (r = 0 ∧ mq_W M2 N2 ∧ mq_cx M2 N2 ∨ r = 1 ∧ mq_cI lc lp pb n (M.1 3 1).toInt M2 N2)) := by
  have hd0 := hd
  obtain ⟨d1, ⟨n0, n1⟩, ⟨d3, d3'⟩, d4, d5, d6, d7, d8, d9⟩ := hd
  unfold mf_166
  refine mq_clen (F := 432) hW hc rfl (.inl rfl) hp hP ?_ (fun len M2 N2 hx => mq_R242d hx)
  intro len M2 N2 l0 l1 w2 c2 k1 k2
  obtain ⟨u1, u2, u3, u4⟩ := w2.1.2.1
  have hz2 := mq_cz_kp hz k1 k2 rfl rfl rfl
  have hsz : M2.1 3 1 = M.1 3 1 := (k1 3 1 rfl).1
  unfold mq_R242
  rcases mq_croom (M := M2) (N := N2) (len := len) (n := n) u1 u2 u3 hz2.1.2.2.2.1 n0 n1 (by omega) (by omega) w2.1.2.2.2.2.1 with ⟨e1, e2, hroom⟩ | ⟨e1, e2⟩
  · rw [e1, e2, mq_Bs, mq_Bs, if_pos w2.1.2.2.2.2.1]
    refine mq_2_B (mq_2_K (mq_cdist w2 c2 l0 l1) mk_170 mk_243) ?_ ?_
    · rintro d M3 b N3 ⟨⟨rfl, q0, q1, w3, c3⟩, k3, k4⟩
      rw [mq_L136, mq_Bs]
      have hz3 := mq_cz_kp hz2 k3 k4 rfl rfl rfl
      have hsz3 : M3.1 3 1 = M2.1 3 1 := (k3 3 1 rfl).1
      have hz30 := hz3
      obtain ⟨⟨z1, z2, z3, z4, z5, z6, z7, z8, z9⟩, y1, y2, y3, y4, y5, y6, y7, y8⟩ := hz30
      have hd3 : mq_cd lc lp pb n st r0 r1 r2 r3 (M3.1 3 1).toInt := by rw [hsz3, hsz]; exact hd0
      have hroom3 : 0 ≤ n.toInt → (M3.1 3 1).toInt + len.toInt ≤ n.toInt := by rw [hsz3]; exact hroom
      have key : ∀ s1 : Int32, (s1 = 7 ∧ st < 7 ∨ s1 = 10 ∧ ¬ st < 7) → mq_2 mq_XE (if (M3.2.1 80 14) < (0 : Int64) then (if d = (4294967296 : Int64) then (some (.inl (0 : Int32), M3)) else (mf_166_j34 len d M3)) else (mf_166_j34 len d M3)) (mf_238_j188 n len d s1 (mm_pl (mm_pl (mm_pl (mm_pl N3 99 3 (N3.2.1 99 2)) 99 2 (N3.2.1 99 1)) 99 1 (N3.2.1 99 0)) 99 0 d)) (fun r M2 b N2 => r = b ∧ (r = 0 ∧ mq_W M2 N2 ∧ mq_cx M2 N2 ∨ r = 1 ∧ mq_cI lc lp pb n (M.1 3 1).toInt M2 N2)) := by
        intro s1 hs1
        have ts : 0 ≤ s1.toInt ∧ s1.toInt ≤ 11 := by rcases hs1 with ⟨rfl, _⟩ | ⟨rfl, _⟩ <;> decide
        have go := mq_cmatch2 (s1 := s1) (d := d) w3 c3 hz3 hd3 q0 l0 l1 hroom3 ts.1 ts.2 (fun {_ _ _} => hs1)
        rw [hsz3, hsz] at go
        have go' := mq_2_mono (E := mq_XE) (Q := fun r M2 b N2 => r = b ∧ (r = 0 ∧ mq_W M2 N2 ∧ mq_cx M2 N2 ∨ r = 1 ∧ mq_cI lc lp pb n (M.1 3 1).toInt M2 N2)) go (by rintro r M2 b N2 ⟨rfl, rfl, q⟩; exact ⟨rfl, .inr ⟨rfl, q⟩⟩) (fun _ _ _ q => q)
        unfold mf_238_j188
        have h7 : (mm_pl (mm_pl (mm_pl (mm_pl N3 99 3 (N3.2.1 99 2)) 99 2 (N3.2.1 99 1)) 99 1 (N3.2.1 99 0)) 99 0 d).1 84 7 = 0 := w3.1.2.2.2.2.1
        rw [z4, if_pos h7]
        by_cases c : n < 0
        · rw [if_pos c, if_pos c]
          by_cases g : d = 4294967296
          · rw [if_pos g, if_pos g]
            exact mq_2_ret ⟨rfl, .inl ⟨rfl, w3, c3⟩⟩
          · rw [if_neg g, if_neg g]; exact go'
        · rw [if_neg c, if_neg c]
          by_cases g : d = 4294967296
          · rw [if_pos g]; exact go'
          · rw [if_neg g]; exact go'
      unfold mf_238_j163
      rw [if_pos (show mm_in 0 4 = true from by decide), show (0 : Int32).toNatClampNeg = 0 from rfl]
      have e35 : (mm_pl (mm_pl (mm_pl N3 99 3 (N3.2.1 99 2)) 99 2 (N3.2.1 99 1)) 99 1 (N3.2.1 99 0)).1 84 35 = st := y4
      rw [e35]
      by_cases g : st < 7
      · rw [if_pos g]; exact key 7 (.inl ⟨rfl, g⟩)
      · rw [if_neg g]; exact key 10 (.inr ⟨rfl, g⟩)
    · rintro M3 b N3 ⟨hx, _, _⟩
      exact mq_R242w hx
  · rw [e1, e2, mq_Bt, mq_Bs, if_neg (show ¬ (mm_pi N2 84 7 1).1 84 7 = 0 from by rw [mq_ps]; decide)]
    obtain ⟨x, N3, e, hx⟩ := mq_R242w (n := n) (r := len) (y := 1) (mq_X_th (mq_W_bad w2))
    rw [e]
    exact mq_2_thr hx
