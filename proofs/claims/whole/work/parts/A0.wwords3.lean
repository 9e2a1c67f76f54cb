/-! WRITING: WORDS, the whole -/
def mp_wd (w n s : Int32) : Int32 := if w < 12 then (if n + s < mm_shl 1 w then w else w + 1) else w
theorem mq_widen {M : mm_M} : ∃ M2, mf_106 M = some (.inl (), M2) ∧ M2.1 35 9 = mp_wd (M.1 35 9) (M.1 35 10) (M.1 35 11) ∧ mq_kp [(35, some 9)] M M2 := by
  unfold mf_106 mp_wd
  by_cases c : M.1 35 9 < 12
  · rw [if_pos c, if_pos c]
    by_cases e : M.1 35 10 + M.1 35 11 < mm_shl 1 (M.1 35 9)
    · rw [if_pos e, if_pos e]; exact ⟨_, rfl, rfl, mq_kp_refl⟩
    · rw [if_neg e, if_neg e]; exact ⟨_, rfl, rfl, mq_kp_pi mq_kp_refl rfl⟩
  · rw [if_neg c, if_neg c]; exact ⟨_, rfl, rfl, mq_kp_refl⟩
theorem mq_widenr {N : mm_M} {d v3 w v5 v8 v10 : Int32} (hd : d = 0 ∨ d = 1) : (if w < (12 : Int32) then (if d = 0 then (mf_261_j200 d v3 w v5 v8 v10 (v8 + v10) w v5 (0 : Int32) N) else (mf_261_j200 d v3 w v5 v8 v10 (v8 + v10) w v5 (1 : Int32) N)) else (some (.inl (.inl ((w + (0 : Int32)), v5, v8, v10, (v8 + v10))), N))) = some (.inl (.inl (mp_wd w v5 d, v5, v8, v10, (v8 + v10))), N) := by
  unfold mf_261_j200 mp_wd
  by_cases c : w < 12
  · rw [if_pos c, if_pos c]
    rcases hd with rfl | rfl
    · rw [if_pos rfl]
      by_cases e : v5 + 0 < mm_shl 1 w
      · rw [if_pos e, if_pos e, mi_z]
      · rw [if_neg e, if_neg e]
    · rw [if_neg (by decide)]
      by_cases e : v5 + 1 < mm_shl 1 w
      · rw [if_pos e, if_pos e, mi_z]
      · rw [if_neg e, if_neg e]
  · rw [if_neg c, if_neg c, mi_z]
theorem mp_wd_b {w n s : Int32} (h0 : 9 ≤ w.toInt) (h1 : w.toInt ≤ 12) : 9 ≤ (mp_wd w n s).toInt ∧ (mp_wd w n s).toInt ≤ 12 := by
  unfold mp_wd
  by_cases c : w < 12
  · rw [if_pos c]
    rw [Int32.lt_iff_toInt_lt] at c
    simp only [Int32.reduceToInt] at c
    by_cases e : n + s < mm_shl 1 w
    · rw [if_pos e]; omega
    · rw [if_neg e, mi_add]
      simp only [Int32.reduceToInt]
      omega
  · rw [if_neg c]; omega
theorem mq_WT_kp {t : Nat → Int32} {D : Nat} {A S P : Nat → Nat} {M M2 : mm_M} {w : List (Nat × Option Nat)} (h : mq_WT t D A S P M) (k : mq_kp w M M2) (h1 : ∀ j, mq_ws w 38 j = false) (h2 : ∀ j, mq_ws w 39 j = false) (h3 : ∀ j, mq_ws w 40 j = false) : mq_WT t D A S P M2 := by
  refine ⟨fun p hp => ?_, fun q q0 q1 => ?_⟩
  · rw [(k 38 p (h1 p)).1]; exact h.1 p hp
  · rw [(k 39 q (h2 q)).1, (k 40 q (h3 q)).1]; exact h.2 q q0 q1
/-- what stands between two words -/
def mq_wwi (M : mm_M) (sz : Nat) (d : Int32) (z0 : Int) (a : Int32) (M2 : mm_M) (b : Int32 × Int32 × Int32 × Int32 × Int32) (N2 : mm_M) : Prop :=
  ∃ k n : Nat, a.toInt = k ∧ k ≤ sz ∧ b.2.2.2.2 = a ∧ M2.1 1 1 = M.1 1 1 ∧ (∀ j, M2.1 2 j = M.1 2 j) ∧ M2.1 35 8 = 256 ∧ M2.1 35 11 = d ∧ M2.1 5 3 = d ∧ N2.1 84 13 = d ∧ mq_P M2 N2 ∧ mq_z N2 ≤ z0 + 12 * k ∧
    b.1 = M2.1 35 9 ∧ 9 ≤ b.1.toInt ∧ b.1.toInt ≤ 12 ∧ b.2.1 = M2.1 35 10 ∧ b.2.1.toInt = n ∧ 258 ≤ n ∧ n ≤ 4096 ∧
    (k < sz → ∃ (D : Nat) (A S P : Nat → Nat), mq_tre (M.1 2) sz D A S P ∧ mq_tu (M.1 2) D A S P ∧ mq_WT (M.1 2) D A S P M2 ∧ (∀ q, 258 ≤ q → q < n → (N2.1 91 q).toInt = A q ∧ (N2.1 92 q).toInt = S q) ∧
      ((M2.1 35 12 = 1 ∧ b.2.2.2.1 = 0 ∧ D = n) ∨ (M2.1 35 12 = 0 ∧ 0 < b.2.2.2.1 ∧ (n = 4096 ∧ D = n ∨ n < 4096 ∧ D = n + 1 ∧ b.2.2.1.toInt = A n ∧ (b.2.2.2.1 + 1).toInt = S n))))
/-- the reference takes the new word -/
theorem mq_wtake {N2 : mm_M} {d v3 w v5 v6 v7 v8 : Int32} {n D : Nat} {A S : Nat → Nat} (hn : v5.toInt = n) (n0 : 258 ≤ n) (n1 : n ≤ 4096) (hA : ∀ q, 258 ≤ q → q < n → (N2.1 91 q).toInt = A q ∧ (N2.1 92 q).toInt = S q) (hD : (v7 = 0 ∧ D = n) ∨ (0 < v7 ∧ (n = 4096 ∧ D = n ∨ n < 4096 ∧ D = n + 1 ∧ v6.toInt = A n ∧ (v7 + 1).toInt = S n))) (hlt : v8 < N2.1 84 2) :
    ∃ v5' N3, mf_261_b32 d v3 w v5 v6 v7 v8 N2 = mf_261_j77 d v3 w v5' v8 N3 ∧ v5'.toInt = D ∧ v5' = (if 0 < v7 then (if v5 < 4096 then v5 + 1 else v5) else v5) ∧ (∀ q, 258 ≤ q → q < D → (N3.1 91 q).toInt = A q ∧ (N3.1 92 q).toInt = S q) ∧ mq_kp [(91, none), (92, none)] N2 N3 := by
  unfold mf_261_b32
  rw [if_pos hlt]
  rcases hD with ⟨rfl, rfl⟩ | ⟨h7, ⟨e1, e2⟩ | ⟨e1, e2, e3, e4⟩⟩
  · rw [if_neg (by decide), if_neg (by decide)]
    exact ⟨_, _, rfl, hn, rfl, hA, mq_kp_refl⟩
  · have c : ¬ v5 < 4096 := by rw [Int32.lt_iff_toInt_lt]; simp only [Int32.reduceToInt]; omega
    rw [if_pos h7, if_pos h7, if_neg c, if_neg c]
    exact ⟨_, _, rfl, by omega, rfl, fun q q0 q1 => hA q q0 (by omega), mq_kp_refl⟩
  · have c : v5 < 4096 := by rw [Int32.lt_iff_toInt_lt]; simp only [Int32.reduceToInt]; omega
    have hin : mm_in v5 4096 = true := mq_inr (by omega) (by omega)
    have nn : v5.toNatClampNeg = n := by rw [mq_cl]; omega
    rw [if_pos h7, if_pos h7, if_pos c, if_pos c, if_pos hin, if_pos hin, nn]
    refine ⟨_, _, rfl, ?_, rfl, fun q q0 q1 => ?_, mq_kp_pi (mq_kp_pi mq_kp_refl rfl) rfl⟩
    · rw [mi_add]; simp only [Int32.reduceToInt]; omega
    · show ((mm_pi N2 91 n v6).1 91 q).toInt = A q ∧ ((mm_pi (mm_pi N2 91 n v6) 92 n (v7 + 1)).1 92 q).toInt = S q
      by_cases z : q = n
      · subst z
        rw [mq_ps, mq_ps]
        exact ⟨e3, e4⟩
      · rw [mq_pj z, mq_pj z]
        exact hA q q0 (by omega)
theorem mq_wstep {M : mm_M} {sz : Nat} {d : Int32} {z0 : Int} (hd : d = 0 ∨ d = 1) (hsz : (M.1 1 1).toInt = sz) (hs1 : sz ≤ 10000) (hz : z0 ≤ 100000) (hb : ∀ j, j < sz → 0 ≤ (M.1 2 j).toInt ∧ (M.1 2 j).toInt < 256) {a : Int32} {M2 : mm_M} {b : Int32 × Int32 × Int32 × Int32 × Int32} {N2 : mm_M} (h : mq_wwi M sz d z0 a M2 b N2) :
    mq_2 mq_F (mf_114_b26 a M2) (mf_261_b32 d 256 b.1 b.2.1 b.2.2.1 b.2.2.2.1 b.2.2.2.2 N2) (fun r M3 s N3 => (∃ a2 b2, r = .inl a2 ∧ s = .inl b2 ∧ mq_wwi M sz d z0 a2 M3 b2 N3 ∧ ((sz : Int) - a2.toInt).toNat < ((sz : Int) - a.toInt).toNat) ∨ (∃ u v, r = .inr u ∧ s = .inr v ∧ mq_P M3 N3 ∧ M3.1 35 8 = 256 ∧ v = M3.1 35 9 ∧ 9 ≤ v.toInt ∧ v.toInt ≤ 12 ∧ M3.1 5 3 = d ∧ N3.1 84 13 = d ∧ mq_z N3 ≤ z0 + 12 * sz)) := by
  obtain ⟨w, v5, v6, v7, v8⟩ := b
  obtain ⟨k, n, ha, ks, e8, es, ht, c8, c11, f5, g13, hP, z2, ew, w0, w1, e10, hn, n0, n1, hT⟩ := h
  dsimp only at e8 ew w0 w1 e10 hn hT ⊢
  subst e8
  have eN : N2.1 84 2 = M.1 1 1 := by rw [← hP.1.1.1]; exact es
  by_cases c : v8 < M.1 1 1
  · have c0 := c
    rw [Int32.lt_iff_toInt_lt] at c
    obtain ⟨D, A, S, P, htr, htu, hWT, hA, hD⟩ := hT (by omega)
    have hD2 : (v7 = 0 ∧ D = n) ∨ (0 < v7 ∧ (n = 4096 ∧ D = n ∨ n < 4096 ∧ D = n + 1 ∧ v6.toInt = A n ∧ (v7 + 1).toInt = S n)) := by
      rcases hD with ⟨_, q⟩ | ⟨_, q⟩
      · exact .inl q
      · exact .inr q
    have hDn : 258 ≤ D ∧ D ≤ 4096 := by
      rcases hD2 with ⟨_, q⟩ | ⟨_, ⟨_, q⟩ | ⟨_, q, _⟩⟩
      · omega
      · omega
      · omega
    obtain ⟨v5', N3, er, h5, e5, hA3, kN⟩ := mq_wtake (d := d) (v3 := 256) (w := w) hn n0 n1 hA hD2 (by rw [eN]; exact c0)
    rw [er]
    have hP3 : mq_P M2 N3 := mq_P_kp hP (mq_kp_refl (l := [])) kN rfl rfl
    have z3 : mq_z N3 = mq_z N2 := mq_z_kp kN rfl rfl
    have g13' : N3.1 84 13 = d := by rw [(kN 84 13 rfl).1]; exact g13
    have nk : v8.toNatClampNeg = k := by rw [mq_cl]; omega
    have tN : ∀ j, j < sz → N3.1 85 j = M.1 2 j := fun j hj => by rw [← (hP3.1.1.2.2.2 j (by rw [es]; omega)).1]; exact ht j
    have bk := hb k (by omega)
    -- the reference's longest
    obtain ⟨r', yr, c', l', ec', el', hr', hm'⟩ := mq_scan (v2 := d) (v3 := 256) (v4 := w) (c0 := N3.1 85 k) htr h5 hDn.1 hDn.2 ha (by omega) (by rw [← hP3.1.1.1, es]; exact hsz) hs1 tN hA3 (tN k (by omega)) bk.1 bk.2
    have hin : mm_in v8 10000 = true := mq_inr (by omega) (by omega)
    unfold mf_261_j77
    rw [if_pos hin, nk, show (256 : Int32) + 2 = 258 from rfl, yr, mq_Bs]
    -- the class's
    obtain ⟨c1, hc1⟩ : ∃ c1 : Nat, (M.1 2 k).toInt = c1 := ⟨(M.1 2 k).toInt.toNat, by omega⟩
    have rd1 : mq_rd (M.1 2) sz D A S k c1 1 := ⟨by omega, .inl ⟨by omega, rfl, hc1⟩⟩
    have e1 : (v8 + 1).toInt = ((k + 1 : Nat) : Int) := by rw [mi_add]; simp only [Int32.reduceToInt]; omega
    have cls : ∃ r : Int32 × Int32, mf_114_b26 v8 M2 = mf_114_j133 r.1 r.2 M2 ∧ ∃ c l : Nat, r.1.toInt = ((k + l : Nat) : Int) ∧ r.2.toInt = c ∧ mq_rd (M.1 2) sz D A S k c l ∧ (k + l = sz ∨ ∀ q, 258 ≤ q → q < D → P q = c → M.1 2 (A q + (S q - 1)) ≠ M.1 2 (k + l)) := by
      unfold mf_114_b26
      rw [es, if_pos c0, if_pos hin, nk, ht]
      by_cases e : v8 + 1 < M.1 1 1
      · rw [if_pos e]
        rw [Int32.lt_iff_toInt_lt] at e
        have n1' : (v8 + 1).toNatClampNeg = k + 1 := by rw [mq_cl]; omega
        rw [if_pos (mq_inr (by omega) (by omega)), n1', ht]
        obtain ⟨r0, x0, h0⟩ := mq_115 (M := M2) (v1 := M.1 2 k) (v2 := M.1 2 (k + 1)) hWT hDn.2 hc1 (by omega)
        rw [x0, mq_Bs]
        obtain ⟨r, xr, hr⟩ := mq_down (M := M2) (v1 := v8 + 1) (v2 := M.1 2 k) (v3 := r0) hWT hDn.2 htr (by rw [es]; exact hsz) hs1 ht e1 hc1 rd1 (.inl ⟨by omega, h0⟩)
        rw [xr, mq_Bs]
        exact ⟨r, rfl, hr⟩
      · rw [if_neg e]
        rw [Int32.lt_iff_toInt_lt] at e
        obtain ⟨r, xr, hr⟩ := mq_down (M := M2) (v1 := v8 + 1) (v2 := M.1 2 k) (v3 := 0) hWT hDn.2 htr (by rw [es]; exact hsz) hs1 ht e1 hc1 rd1 (.inr ⟨by omega, rfl⟩)
        rw [xr, mq_Bs]
        exact ⟨r, rfl, hr⟩
    obtain ⟨r, xr, cc, l, r1, r2, hr, hno⟩ := cls
    rw [xr]
    obtain ⟨ecc, ell⟩ := mq_rd_u htr htu hr (mq_rd_m htr htu hr hno) hr' hm'
    subst ecc ell
    have er1 : r'.1 = r.2 := Int32.toInt_inj.mp (by omega)
    have l1 : 1 ≤ l := by
      rcases hr.2 with ⟨_, q, _⟩ | ⟨q0, q1, q2, _⟩
      · omega
      · have := (htr cc q0 q1).1; omega
    have hrs := hr.1
    unfold mf_114_j133 mf_261_j155
    rw [er1, ← ew]
    refine mq_2_Bf (mq_wbits hP3 (by rw [f5, g13']) g13'.symm (by omega) (by omega)) ?_
    rintro _ M4 _ N4 ⟨p4, z4, k3, k4⟩
    rw [mq_widenr hd]
    -- the class's next number
    have nx : ∃ M5, (if (M4.1 35 12) = 0 then (if (M4.1 35 10) < (4096 : Int32) then (mf_114_j173 r.1 r.2 (mm_pi M4 35 10 ((M4.1 35 10) + (1 : Int32)))) else (mf_114_j173 r.1 r.2 M4)) else (mf_114_j173 r.1 r.2 M4)) = mf_114_j173 r.1 r.2 M5 ∧ M5.1 35 10 = v5' ∧ mq_kp [(35, some 10)] M4 M5 := by
      rw [(k3 35 12 rfl).1, (k3 35 10 rfl).1, ← e10, e5]
      rcases hD with ⟨q1, q2, _⟩ | ⟨q1, q2, _⟩
      · rw [q1, if_neg (by decide), q2, if_neg (by decide)]
        exact ⟨_, rfl, by rw [(k3 35 10 rfl).1]; exact e10.symm, mq_kp_refl⟩
      · rw [if_pos q1, if_pos q2]
        by_cases e : v5 < 4096
        · rw [if_pos e, if_pos e]
          exact ⟨_, rfl, rfl, mq_kp_pi mq_kp_refl rfl⟩
        · rw [if_neg e, if_neg e]
          exact ⟨_, rfl, by rw [(k3 35 10 rfl).1]; exact e10.symm, mq_kp_refl⟩
    obtain ⟨M5, x5, v10, k5⟩ := nx
    rw [x5]
    unfold mf_114_j173
    obtain ⟨M6, x6, w6, k6⟩ := mq_widen (M := mm_pi M5 35 12 0)
    rw [x6, mq_Bs]
    have kk : mq_kp [(5, some 1), (5, some 2), (5, some 4), (5, some 5), (6, none), (35, some 9), (35, some 10), (35, some 12)] M2 M6 := mq_kp_trans (mq_kp_sub k3 rfl) (mq_kp_trans (mq_kp_sub k5 rfl) (mq_kp_trans (mq_kp_pi mq_kp_refl rfl) (mq_kp_sub k6 rfl)))
    have w6' : M6.1 35 9 = mp_wd w v5' d := by
      rw [w6]
      show mp_wd (M5.1 35 9) (M5.1 35 10) (M5.1 35 11) = _
      rw [v10, (k5 35 9 rfl).1, (k3 35 9 rfl).1, (k5 35 11 rfl).1, (k3 35 11 rfl).1, ← ew, c11]
    have n6 : M6.1 35 10 = v5' := by rw [(k6 35 10 rfl).1]; exact v10
    have f6 : M6.1 35 12 = 0 := (k6 35 12 rfl).1
    have es6 : M6.1 1 1 = M.1 1 1 := by rw [(kk 1 1 rfl).1]; exact es
    have p6 : mq_P M6 N4 := mq_P_kp p4 (mq_kp_trans (l := [(35, some 9), (35, some 10), (35, some 12)]) (mq_kp_sub k5 rfl) (mq_kp_trans (mq_kp_pi mq_kp_refl rfl) (mq_kp_sub k6 rfl))) (mq_kp_refl (l := [])) rfl rfl
    have wb := mp_wd_b (n := v5') (s := d) w0 w1
    have ev : v8 + r'.2 = r.1 := Int32.toInt_inj.mp (by rw [mi_add]; omega)
    rw [ev]
    have hWT6 : mq_WT (M.1 2) D A S P M6 := mq_WT_kp hWT kk (fun _ => rfl) (fun _ => rfl) (fun _ => rfl)
    have t6 : ∀ j, M6.1 2 j = M.1 2 j := fun j => by rw [(kk 2 j rfl).1]; exact ht j
    have zz : mq_z N4 ≤ z0 + 12 * ((k + l : Nat) : Int) := by omega
    have a34 : ∀ q, 258 ≤ q → q < D → (N4.1 91 q).toInt = A q ∧ (N4.1 92 q).toInt = S q := fun q q0 q1 => by
      rw [(k4 91 q rfl).1, (k4 92 q rfl).1]; exact hA3 q q0 q1
    have g4 : N4.1 84 13 = d := by rw [(k4 84 13 rfl).1]; exact g13'
    -- what is said at the end, where no word is added
    have fin : ∀ M7, M7 = M6 → (k + l = sz ∨ D = 4096) → mq_2 mq_F (some (.inl (.inl r.1), M7) : mm_O (Int32 ⊕ Unit)) (some (.inl (.inl (mp_wd w v5' d, v5', v8, r'.2, r.1)), N4) : mm_O ((Int32 × Int32 × Int32 × Int32 × Int32) ⊕ Int32)) (fun r M3 s N3 => (∃ a2 b2, r = .inl a2 ∧ s = .inl b2 ∧ mq_wwi M sz d z0 a2 M3 b2 N3 ∧ ((sz : Int) - a2.toInt).toNat < ((sz : Int) - v8.toInt).toNat) ∨ (∃ u v, r = .inr u ∧ s = .inr v ∧ mq_P M3 N3 ∧ M3.1 35 8 = 256 ∧ v = M3.1 35 9 ∧ 9 ≤ v.toInt ∧ v.toInt ≤ 12 ∧ M3.1 5 3 = d ∧ N3.1 84 13 = d ∧ mq_z N3 ≤ z0 + 12 * sz)) := by
      rintro M7 rfl hh
      refine mq_2_ret (.inl ⟨_, _, rfl, rfl, ⟨k + l, D, r1, hrs, rfl, es6, t6, by rw [(kk 35 8 rfl).1]; exact c8, by rw [(kk 35 11 rfl).1]; exact c11, by rw [(kk 5 3 rfl).1]; exact f5, g4, p6, zz, w6'.symm, wb.1, wb.2, n6.symm, h5, hDn.1, hDn.2, fun kl => ?_⟩, by omega⟩)
      have hh := hh.resolve_left (by omega)
      refine ⟨D, A, S, P, htr, htu, hWT6, a34, .inr ⟨f6, ?_, .inl ⟨hh, rfl⟩⟩⟩
      show 0 < r'.2
      rw [Int32.lt_iff_toInt_lt]
      simp only [Int32.reduceToInt]
      omega
    rw [es6, n6]
    by_cases e : r.1 < M.1 1 1
    · rw [if_pos e]
      rw [Int32.lt_iff_toInt_lt] at e
      by_cases e2 : v5' < 4096
      · rw [if_pos e2, if_pos (mq_inr (by omega) (by omega))]
        rw [Int32.lt_iff_toInt_lt] at e2
        simp only [Int32.reduceToInt] at e2
        have nr : r.1.toNatClampNeg = k + l := by rw [mq_cl]; omega
        rw [nr, t6]
        obtain ⟨M7, x7, hWT7, k7⟩ := mq_116 (sz := sz) (M := M6) (v1 := r.2) (v2 := M.1 2 (k + l)) hWT6 hDn.1 (by omega) (by rw [n6]; exact h5) r2 hr rfl
        rw [x7, mq_Bs]
        have hno := hno.resolve_left (by omega)
        have p7 : mq_P M7 N4 := mq_P_kp p6 k7 (mq_kp_refl (l := [])) rfl rfl
        refine mq_2_ret (.inl ⟨_, _, rfl, rfl, ⟨k + l, D, r1, hrs, rfl, by rw [(k7 1 1 rfl).1]; exact es6, fun j => by rw [(k7 2 j rfl).1]; exact t6 j, by rw [(k7 35 8 rfl).1, (kk 35 8 rfl).1]; exact c8, by rw [(k7 35 11 rfl).1, (kk 35 11 rfl).1]; exact c11, by rw [(k7 5 3 rfl).1, (kk 5 3 rfl).1]; exact f5, g4, p7, zz, by rw [(k7 35 9 rfl).1]; exact w6'.symm, wb.1, wb.2, by rw [(k7 35 10 rfl).1]; exact n6.symm, h5, hDn.1, hDn.2, fun kl => ?_⟩, by omega⟩)
        refine ⟨D + 1, _, _, _, mq_tr_n htr hDn.1 hr kl, mq_tu_n htu hno, hWT7, fun q q0 q1 => ?_, .inr ⟨by rw [(k7 35 12 rfl).1]; exact f6, ?_, .inr ⟨by omega, rfl, by rw [mq_up_s]; exact ha, ?_⟩⟩⟩
        · rw [mq_up_n (by omega), mq_up_n (by omega)]
          exact a34 q q0 q1
        · show 0 < r'.2
          rw [Int32.lt_iff_toInt_lt]
          simp only [Int32.reduceToInt]
          omega
        · show (r'.2 + 1).toInt = _
          rw [mq_up_s, mi_add]
          simp only [Int32.reduceToInt]
          omega
      · rw [if_neg e2]
        rw [Int32.lt_iff_toInt_lt] at e2
        simp only [Int32.reduceToInt] at e2
        exact fin M6 rfl (.inr (by omega))
    · rw [if_neg e]
      rw [Int32.lt_iff_toInt_lt] at e
      exact fin M6 rfl (.inl (by omega))
  · unfold mf_114_b26 mf_261_b32
    rw [es, eN, if_neg c, if_neg c]
    rw [Int32.lt_iff_toInt_lt] at c
    exact mq_2_ret (.inr ⟨_, _, rfl, rfl, hP, c8, ew, w0, w1, f5, g13, by omega⟩)
theorem mq_pwords {M N : mm_M} {d : Int32} (h : mq_P M N) (hd : d = 0 ∨ d = 1) (hf : M.1 5 3 = d) (hf2 : N.1 84 13 = d) (c8 : M.1 35 8 = 256) (c9 : M.1 35 9 = 9) (c10 : M.1 35 10 = 258) (c11 : M.1 35 11 = d) (c12 : M.1 35 12 = 1) (hz : mq_z N ≤ 1000) : mq_2 mq_F (mf_114 M) (mf_261 8 d N) (fun _ M2 _ N2 => mq_P M2 N2) := by
  have s10 := h.1.1.2.2.1
  have s0 := h.1.1.2.1
  obtain ⟨sz, hsz⟩ : ∃ sz : Nat, (M.1 1 1).toInt = sz := ⟨(M.1 1 1).toInt.toNat, by omega⟩
  unfold mf_114 mf_261
  obtain ⟨_, M1, x1, hv, k1⟩ := mq_fill (M := M) (q := 38) (n := 4096) (v := 0) (by decide)
  rw [x1, mq_Bs]
  have p1 : mq_P M1 N := mq_P_kp h k1 (mq_kp_refl (l := [])) rfl rfl
  rw [(k1 35 8 rfl).1, c8, (k1 35 9 rfl).1, c9, show mm_shl (1 : Int32) 8 = 256 from rfl, show (8 : Int32) + 1 = 9 from rfl, show (256 : Int32) + 2 = 258 from rfl]
  refine mq_2_Bf (mq_wbits p1 (by rw [(k1 5 3 rfl).1, hf, hf2]) hf2.symm (by decide) (by simp only [Int32.reduceToInt]; omega)) ?_
  rintro _ M2 _ N2 ⟨p2, z2, k2, k3⟩
  simp only [Int32.reduceToInt] at z2
  have kk : mq_kp [(5, some 1), (5, some 2), (5, some 4), (5, some 5), (6, none), (38, none)] M M2 := mq_kp_trans (mq_kp_sub k1 rfl) (mq_kp_sub k2 rfl)
  refine mq_2_Bf (P := fun _ M3 v N3 => mq_P M3 N3 ∧ M3.1 35 8 = 256 ∧ v = M3.1 35 9 ∧ 9 ≤ v.toInt ∧ v.toInt ≤ 12 ∧ M3.1 5 3 = d ∧ N3.1 84 13 = d ∧ mq_z N3 ≤ mq_z N2 + 12 * sz) ?_ ?_
  · unfold mf_114_L26 mf_261_L32
    refine mq_2_Lf (I := fun a M3 b N3 => mq_wwi M sz d (mq_z N2) a M3 b N3) (m := fun a _ => ((sz : Int) - a.toInt).toNat) (fun a M3 b N3 q => mq_wstep hd hsz (by omega) (by omega) (fun j hj => (h.1.1.2.2.2 j (by omega)).2) q) ?_
    refine ⟨0, 258, rfl, Nat.zero_le _, rfl, (kk 1 1 rfl).1, fun j => (kk 2 j rfl).1, by rw [(kk 35 8 rfl).1]; exact c8, by rw [(kk 35 11 rfl).1]; exact c11, by rw [(kk 5 3 rfl).1]; exact hf, by rw [(k3 84 13 rfl).1]; exact hf2, p2, by omega, by dsimp only; rw [(kk 35 9 rfl).1, c9], by decide, by decide, by dsimp only; rw [(kk 35 10 rfl).1, c10], rfl, Nat.le_refl _, by omega, fun _ => ?_⟩
    refine ⟨258, fun _ => 0, fun _ => 0, fun _ => 0, fun q q0 q1 => by omega, fun q r q0 q1 => by omega, ⟨fun p hp => .inl ⟨?_, fun q q0 q1 => by omega⟩, fun q q0 q1 => by omega⟩, fun q q0 q1 => by omega, .inl ⟨by rw [(kk 35 12 rfl).1]; exact c12, rfl, rfl⟩⟩
    rw [(k2 38 p rfl).1]
    exact hv p hp
  · rintro _ M3 v N3 ⟨p3, e8, rfl, w0, w1, f3, g3, z3⟩
    unfold mf_114_j220 mf_261_j219
    rw [e8]
    refine mq_2_Bf (mq_wbits p3 (by rw [f3, g3]) g3.symm (by omega) (by omega)) ?_
    rintro _ M4 _ N4 ⟨p4, z4, _, _⟩
    refine mq_2_Bf (mq_wrest p4 (by omega)) ?_
    rintro _ M5 _ N5 ⟨p5, _⟩
    exact mq_2_ret p5
theorem mq_begin {M : mm_M} {d : Int32} : ∃ M2, mf_104 8 d M = some (.inl (), M2) ∧ M2.1 35 8 = 256 ∧ M2.1 35 9 = 9 ∧ M2.1 35 10 = 258 ∧ M2.1 35 11 = d ∧ M2.1 35 12 = 1 ∧ mq_kp mw_104 M M2 := by
  have e : mf_104 8 d M = some (.inl (), mm_pi (mm_pi (mm_pi (mm_pi (mm_pi M 35 8 256) 35 11 d) 35 9 9) 35 10 258) 35 12 1) := by
    unfold mf_104 mf_105
    have e1 : (mm_pi (mm_pi M 35 8 (mm_shl 1 8)) 35 11 d).1 35 8 = mm_shl 1 8 := rfl
    rw [e1, mq_top2 (by decide) (by decide)]
    rfl
  exact ⟨_, e, rfl, rfl, rfl, rfl, rfl, mk_104 _ e⟩
theorem mq_pwlow {M N : mm_M} (h : mq_P M N) (hf : M.1 5 3 = 0) (hf2 : N.1 84 13 = 0) (hz : mq_z N ≤ 100) : mq_2 mq_F (mf_112 M) (mm_B (mf_245 8 N) (fun _ M7 => mf_261 8 0 M7)) (fun _ M2 _ N2 => mq_P M2 N2) := by
  unfold mf_112
  refine mq_2_Bf (mq_pb h (by omega) (by decide)) ?_
  rintro _ M2 _ N2 ⟨⟨p2, z2, k1, k2⟩, _⟩
  obtain ⟨M3, x3, a1, a2, a3, a4, a5, k3⟩ := mq_begin (M := M2) (d := 0)
  rw [x3, mq_Bs]
  have p3 : mq_P M3 N2 := mq_P_kp p2 k3 (mq_kp_refl (l := [])) rfl rfl
  exact mq_2_Bl' (mq_pwords p3 (.inl rfl) (by rw [(k3 5 3 rfl).1, (k1 5 3 rfl).1]; exact hf) (by rw [(k2 84 13 rfl).1]; exact hf2) a1 a2 a3 a4 a5 (by omega)) (fun _ _ _ _ q => ⟨(), rfl, q⟩)
theorem mq_pwhigh {M N : mm_M} (h : mq_P M N) (hf2 : N.1 84 13 = 1) (hz : mq_z N ≤ 100) : mq_2 mq_F (mf_113 M) (mf_261 8 1 N) (fun _ M2 _ N2 => mq_P M2 N2) := by
  unfold mf_113
  obtain ⟨M3, x3, a1, a2, a3, a4, a5, k3⟩ := mq_begin (M := mm_pi M 5 3 1) (d := 1)
  rw [x3, mq_Bs]
  have p3 : mq_P M3 N := mq_P_kp (M := mm_pi M 5 3 1) h k3 (mq_kp_refl (l := [])) rfl rfl
  exact mq_2_Bl' (mq_pwords p3 (.inr rfl) (by rw [(k3 5 3 rfl).1]; rfl) hf2 a1 a2 a3 a4 a5 (by omega)) (fun _ _ _ _ q => ⟨(), rfl, q⟩)
