/-! FORM 10: lengths and distances, in step -/
def mq_cz (lc lp pb : Int32) (n : Int64) (st r0 r1 r2 r3 : Int32) (M N : mm_M) : Prop := (M.1 80 6 = lc ∧ M.1 80 7 = lp ∧ M.1 80 8 = pb ∧ M.2.1 80 14 = n ∧ M.1 80 9 = st ∧ M.1 80 10 = r0 ∧ M.1 80 11 = r1 ∧ M.1 80 12 = r2 ∧ M.1 80 13 = r3) ∧ (N.1 84 37 = lc ∧ N.1 84 38 = lp ∧ N.1 84 39 = pb ∧ N.1 84 35 = st ∧ N.2.1 99 0 = r0.toInt64 ∧ N.2.1 99 1 = r1.toInt64 ∧ N.2.1 99 2 = r2.toInt64 ∧ N.2.1 99 3 = r3.toInt64)
theorem mq_cz_kp {lc lp pb st r0 r1 r2 r3 : Int32} {n : Int64} {M N M2 N2 : mm_M} {w w2 : List (Nat × Option Nat)} (h : mq_cz lc lp pb n st r0 r1 r2 r3 M N) (k1 : mq_kp w M M2) (k2 : mq_kp w2 N N2) (h1 : [6, 7, 8, 9, 10, 11, 12, 13, 14].all (fun i => !mq_ws w 80 i) = true) (h2 : [35, 37, 38, 39].all (fun i => !mq_ws w2 84 i) = true) (h3 : [0, 1, 2, 3].all (fun i => !mq_ws w2 99 i) = true) : mq_cz lc lp pb n st r0 r1 r2 r3 M2 N2 := by
  simp only [List.all_cons, List.all_nil, Bool.and_eq_true, Bool.not_eq_true', Bool.and_true] at h1 h2 h3
  obtain ⟨a6, a7, a8, a9, a10, a11, a12, a13, a14⟩ := h1
  obtain ⟨b35, b37, b38, b39⟩ := h2
  obtain ⟨c0, c1, c2, c3⟩ := h3
  unfold mq_cz
  rw [(k1 80 6 a6).1, (k1 80 7 a7).1, (k1 80 8 a8).1, (k1 80 14 a14).2, (k1 80 9 a9).1, (k1 80 10 a10).1, (k1 80 11 a11).1, (k1 80 12 a12).1, (k1 80 13 a13).1, (k2 84 37 b37).1, (k2 84 38 b38).1, (k2 84 39 b39).1, (k2 84 35 b35).1, (k2 99 0 c0).2, (k2 99 1 c1).2, (k2 99 2 c2).2, (k2 99 3 c3).2]
  exact h
/-- is there room -/
theorem mq_croom {M N : mm_M} {len : Int32} {n : Int64} (hu : M.1 3 1 = N.1 84 4) (s0 : 0 ≤ (M.1 3 1).toInt) (s1 : (M.1 3 1).toInt ≤ 16384) (hn : M.2.1 80 14 = n) (n0 : -1 ≤ n.toInt) (n1 : n.toInt ≤ 16384) (l0 : 0 ≤ len.toInt) (l1 : len.toInt ≤ 1000) (w : N.1 84 7 = 0) : (mf_169_j74 len M = some (.inl len, M) ∧ mf_240 len n N = some (.inl (), N) ∧ (0 ≤ n.toInt → (M.1 3 1).toInt + len.toInt ≤ n.toInt)) ∨ (mf_169_j74 len M = some (.inr 0, mm_th M) ∧ mf_240 len n N = some (.inl (), mm_pi N 84 7 1)) := by
  unfold mf_169_j74 mf_240 mf_169_j105 mf_169_j106
  rw [hn, if_pos w, ← hu]
  have e1 : ((M.1 3 1) + len).toInt = (M.1 3 1).toInt + len.toInt := by rw [mi_add]; omega
  have e2 : (n - (M.1 3 1).toInt64).toInt = n.toInt - (M.1 3 1).toInt := by rw [mj_sub, Int32.toInt_toInt64]; omega
  by_cases c : n < 0
  · left
    rw [if_pos c, if_pos c]
    rw [Int64.lt_iff_toInt_lt] at c
    simp only [Int64.reduceToInt] at c
    exact ⟨rfl, rfl, fun q => by omega⟩
  · rw [if_neg c, if_neg c]
    by_cases d : n < (M.1 3 1 + len).toInt64
    · right
      rw [if_pos d, if_pos (show n - (M.1 3 1).toInt64 < len.toInt64 from by rw [Int64.lt_iff_toInt_lt, Int32.toInt_toInt64] at d ⊢; omega)]
      exact ⟨rfl, rfl⟩
    · left
      rw [if_neg d, if_neg (show ¬ n - (M.1 3 1).toInt64 < len.toInt64 from by rw [Int64.lt_iff_toInt_lt, Int32.toInt_toInt64] at d ⊢; omega)]
      rw [Int64.lt_iff_toInt_lt, Int32.toInt_toInt64] at d
      exact ⟨rfl, rfl, fun _ => by omega⟩
/-- a length, and what follows -/
theorem mq_clen {M N : mm_M} {f p : Int32} {F P : Nat} {α β : Type} {fG : Int32 → mm_M → mm_O α} {fH : Int32 → mm_M → mm_O β} {E : mm_M → β → mm_M → Prop} {R : α → mm_M → β → mm_M → Prop} (hW : mq_W M N) (hc : mq_cx M N) (hf : f.toInt = F) (hF : F = 432 ∨ F = 946) (hp : p.toInt = P) (hP : P < 16) (hs : ∀ len M2 N2, 2 ≤ len.toInt → len.toInt ≤ 273 → mq_W M2 N2 → mq_cx M2 N2 → mq_kp mw_169 M M2 → mq_kp mw_242 N N2 → mq_2 E (mm_B (mf_169_j74 len M2) fG) (fH len N2) R) (hd : ∀ len M2 N2, mq_X M2 N2 → mq_1 (fH len N2) (fun b N3 => E M2 b N3)) : mq_2 E (mm_B (mf_169 f p M) fG) (mm_B (mf_242 f p N) fH) R := by
  unfold mf_169 mf_242
  rw [mq_Ba, mq_Ba]
  have h8 : (8 * p).toInt = 8 * P := by rw [mi_mul]; simp only [Int32.reduceToInt]; omega
  have e1 : (f + 1).toInt = ((F + 1 : Nat) : Int) := by rw [mi_add]; simp only [Int32.reduceToInt]; omega
  have e2 : (f + 2 + 8 * p).toInt = ((F + 2 + 8 * P : Nat) : Int) := by rw [mi_add, mi_add, h8]; simp only [Int32.reduceToInt]; omega
  have e3 : (f + 130 + 8 * p).toInt = ((F + 130 + 8 * P : Nat) : Int) := by rw [mi_add, mi_add, h8]; simp only [Int32.reduceToInt]; omega
  have e4 : (f + 258).toInt = ((F + 258 : Nat) : Int) := by rw [mi_add]; simp only [Int32.reduceToInt]; omega
  have mm : ∀ i, 432 ≤ i → i < 1460 → i < 14340 ∧ i = mq_mp i := by
    intro i h1 h2
    refine ⟨by omega, ?_⟩
    unfold mq_mp
    repeat' split
    all_goals omega
  have mx : ∀ {a : Int32} {i : Nat}, a.toInt = i → 432 ≤ i → i < 1460 → 0 ≤ a.toInt ∧ a.toInt < 14340 ∧ a.toInt = mq_mp a.toInt.toNat := by
    intro a i h1 h2 h3
    have : a.toInt.toNat = i := by omega
    rw [this, ← (mm i h2 h3).2]
    omega
  obtain ⟨x1, x2, x3⟩ := mx hf (by omega) (by omega)
  obtain ⟨y1, y2, y3⟩ := mx e1 (by omega) (by omega)
  refine mq_2_B (mq_2_K (mq_cbit hW hc (i := f) (j := f) x1 x2 x3) mk_161 mk_233) ?_ ?_
  · rintro v M2 b N2 ⟨⟨rfl, v1, w2, c2⟩, k1, k2⟩
    by_cases c : v = 0
    · rw [if_pos c, if_pos c, mq_Ba, mq_Ba]
      refine mq_2_B (mq_2_K (mq_ctree w2 c2 (bits := 3) (B := 3) e2 e2 rfl (by decide) (fun k hk => mm _ (by omega) (by omega))) mk_163 mk_234) ?_ ?_
      · rintro r M3 b N3 ⟨⟨rfl, ⟨x, hx, hx2⟩, w3, c3⟩, k3, k4⟩
        have e5 : (2 + r).toInt = 2 + x := by rw [mi_add]; simp only [Int32.reduceToInt]; omega
        exact hs (2 + r) M3 N3 (by omega) (by omega) w3 c3 (mq_kp_trans (mq_kp_sub k1 rfl) (mq_kp_sub k3 rfl)) (mq_kp_trans (mq_kp_sub k2 rfl) (mq_kp_sub k4 rfl))
      · rintro M3 b N3 ⟨hx, _, _⟩
        exact hd _ _ _ hx
    · rw [if_neg c, if_neg c, mq_Ba, mq_Ba]
      refine mq_2_B (mq_2_K (mq_cbit w2 c2 (i := f + 1) (j := f + 1) y1 y2 y3) mk_161 mk_233) ?_ ?_
      · rintro v M3 b N3 ⟨⟨rfl, v1, w3, c3⟩, k3, k4⟩
        by_cases d : v = 0
        · rw [if_pos d, if_pos d, mq_Ba, mq_Ba]
          refine mq_2_B (mq_2_K (mq_ctree w3 c3 (bits := 3) (B := 3) e3 e3 rfl (by decide) (fun k hk => mm _ (by omega) (by omega))) mk_163 mk_234) ?_ ?_
          · rintro r M4 b N4 ⟨⟨rfl, ⟨x, hx, hx2⟩, w4, c4⟩, k5, k6⟩
            have e5 : (10 + r).toInt = 10 + x := by rw [mi_add]; simp only [Int32.reduceToInt]; omega
            exact hs (10 + r) M4 N4 (by omega) (by omega) w4 c4 (mq_kp_trans (mq_kp_trans (mq_kp_sub k1 rfl) (mq_kp_sub k3 rfl)) (mq_kp_sub k5 rfl)) (mq_kp_trans (mq_kp_trans (mq_kp_sub k2 rfl) (mq_kp_sub k4 rfl)) (mq_kp_sub k6 rfl))
          · rintro M4 b N4 ⟨hx, _, _⟩
            exact hd _ _ _ hx
        · rw [if_neg d, if_neg d, mq_Ba, mq_Ba]
          refine mq_2_B (mq_2_K (mq_ctree w3 c3 (bits := 8) (B := 8) e4 e4 rfl (by decide) (fun k hk => mm _ (by omega) (by omega))) mk_163 mk_234) ?_ ?_
          · rintro r M4 b N4 ⟨⟨rfl, ⟨x, hx, hx2⟩, w4, c4⟩, k5, k6⟩
            have e5 : (18 + r).toInt = 18 + x := by rw [mi_add]; simp only [Int32.reduceToInt]; omega
            exact hs (18 + r) M4 N4 (by omega) (by omega) w4 c4 (mq_kp_trans (mq_kp_trans (mq_kp_sub k1 rfl) (mq_kp_sub k3 rfl)) (mq_kp_sub k5 rfl)) (mq_kp_trans (mq_kp_trans (mq_kp_sub k2 rfl) (mq_kp_sub k4 rfl)) (mq_kp_sub k6 rfl))
          · rintro M4 b N4 ⟨hx, _, _⟩
            exact hd _ _ _ hx
      · rintro M3 b N3 ⟨⟨_, hx⟩, _, _⟩
        refine mq_1_B (P := fun _ N => mq_X M3 N) ?_ (fun _ _ hx => hd _ _ _ hx)
        refine mq_1_ite (fun _ => ?_) (fun _ => ?_)
        · exact mq_1_B (mq_xd hx (fun z => md_234 z mq_ob_refl)) (fun _ _ hx => mq_1_ret hx)
        · exact mq_1_B (mq_xd hx (fun z => md_234 z mq_ob_refl)) (fun _ _ hx => mq_1_ret hx)
  · rintro M2 b N2 ⟨⟨_, hx⟩, _, _⟩
    refine mq_1_B (P := fun _ N => mq_X M2 N) ?_ (fun _ _ hx => hd _ _ _ hx)
    refine mq_1_ite (fun _ => ?_) (fun _ => ?_)
    · exact mq_1_B (mq_xd hx (fun z => md_234 z mq_ob_refl)) (fun _ _ hx => mq_1_ret hx)
    · refine mq_1_B (mq_xd hx (fun z => md_233 z)) (fun _ _ hx => mq_1_ite (fun _ => ?_) (fun _ => ?_))
      · exact mq_1_B (mq_xd hx (fun z => md_234 z mq_ob_refl)) (fun _ _ hx => mq_1_ret hx)
      · exact mq_1_B (mq_xd hx (fun z => md_234 z mq_ob_refl)) (fun _ _ hx => mq_1_ret hx)
/-- of a slot -/
theorem mi_cs : ∀ j : Fin 60, ((Int32.ofNat (j.val + 4) / 2) - 1).toInt = (((j.val + 4) / 2 - 1 : Nat) : Int) ∧ ((mm_lshl ((2 : Int64) + (mm_rem (Int32.ofNat (j.val + 4)) 2).toInt64) ((Int32.ofNat (j.val + 4) / 2) - 1))).toInt = (((2 + (j.val + 4) % 2) * 2 ^ ((j.val + 4) / 2 - 1) : Nat) : Int) := by decide +kernel
theorem mi_csp : ∀ j : Fin 60, (2 + (j.val + 4) % 2) * 2 ^ ((j.val + 4) / 2 - 1) ≤ 3221225472 := by decide +kernel
