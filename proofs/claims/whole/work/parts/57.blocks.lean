/-! BLOCKS: plain blocks, the loop of blocks -/
theorem mq_44_left {M : mm_M} {v : Int32} : mf_44 (mm_pi M 1 6 v) = mf_44 M ∨ (mf_44 (mm_pi M 1 6 v) = some (.inr 0, mm_th (mm_pi M 1 6 v)) ∧ mf_44 M = some (.inr 0, mm_th M)) := by
  unfold mf_44
  show (if M.1 1 2 < M.1 1 3 then _ else _) = (if M.1 1 2 < M.1 1 3 then _ else _) ∨ (if M.1 1 2 < M.1 1 3 then _ else _) = _ ∧ (if M.1 1 2 < M.1 1 3 then _ else _) = _
  by_cases c : M.1 1 2 < M.1 1 3
  · left
    rw [if_pos c, if_pos c]
    show (if mm_in (M.1 1 2) 10000 = true then _ else _) = _
    by_cases d : mm_in (M.1 1 2) 10000 = true
    · rw [if_pos d, if_pos d]
      have e : mm_pi (mm_pi M 1 6 v) 1 6 0 = mm_pi M 1 6 0 := by
        unfold mm_pi
        refine Prod.ext ?_ rfl
        funext q j
        dsimp only
        by_cases a : q = 1
        · rw [if_pos a, if_pos a]
          by_cases b : j = 6
          · rw [if_pos b, if_pos a, if_pos b]
          · rw [if_neg b, if_pos a, if_neg b]
            rw [if_neg b]
        · rw [if_neg a, if_neg a, if_neg a]
      rw [e]
      rfl
    · rw [if_neg d, if_neg d]
  · right
    rw [if_neg c, if_neg c]
    exact ⟨rfl, rfl⟩
/-- the first byte read makes the class forget the bits that are left -/
theorem mq_low_left {M N : mm_M} {n : Int32} (h : mq_W (mm_pi M 1 6 0) N) (h0 : 0 < n.toInt) (h1 : n.toInt ≤ 8) : mq_2 mq_XE (mf_47 n M) (mf_193 n N) (fun v M2 b N2 => v = b ∧ (n.toInt ≤ 7 → mq_n v < 2 ^ (8 * n.toInt.toNat)) ∧ mq_W M2 N2 ∧ mq_le M M2 ∧ (M2.1 1 2).toInt = (M.1 1 2).toInt + n.toInt ∧ M2.1 3 1 = M.1 3 1) := by
  have base := mq_low1 h (n := n) (by omega) h1
  have e1 : ∀ M, mf_47 n M = mm_B (mm_B (mf_44 M) (fun r1 M2 => mm_L (fun s M => mf_47_b5 n s.1 s.2 M) (((0 : Int64) ||| (mm_lshl r1.toInt64 ((8 : Int32) * 0))), (0 : Int32) + 1) M2)) (fun r2 M1 => some (.inl r2, M1)) := by
    intro M
    unfold mf_47 mf_47_L5
    rw [mm_L_eq]
    show mm_B (mm_B (mf_47_b5 n 0 0 M) _) _ = _
    unfold mf_47_b5
    rw [if_pos (show (0 : Int32) < n from by rw [Int32.lt_iff_toInt_lt]; exact h0)]
    simp only [mq_Ba, mq_Bs]
    rfl
  rw [e1] at base ⊢
  rcases mq_44_left (M := M) (v := 0) with q | ⟨q1, q2⟩
  · rw [q] at base
    exact base
  · rw [q1, mq_Bt, mq_Bt] at base
    rw [q2, mq_Bt, mq_Bt]
    obtain ⟨b, N2, e, ⟨a, M2, e2, _⟩ | ⟨M2, e2, hx⟩⟩ := base
    · cases e2
    · cases e2
      rw [e]
      exact mq_2_thr hx
theorem mq_passI {M N : mm_M} {l : Int32} (h : mq_W M N) (l0 : 0 ≤ l.toInt) : mq_2 mq_XE (mf_80_L36 l 0 M) (mf_195_L2 l.toInt64 0 N) (fun _ M2 _ N2 => mq_W M2 N2 ∧ mq_le M M2) := by
  unfold mf_80_L36 mf_195_L2
  refine mq_2_L (I := fun (a : Int32) M2 (b : Int64) N2 => a.toInt = b.toInt ∧ 0 ≤ a.toInt ∧ a.toInt ≤ l.toInt ∧ mq_W M2 N2 ∧ mq_le M M2) (J := fun M _ N => mq_X M N) (m := fun (a : Int32) _ => (l.toInt - a.toInt).toNat) ?_ ?_ ⟨rfl, by decide, l0, h, mq_le_refl⟩
  · rintro k M2 b N2 ⟨hb, k0, k1, hW, hl⟩
    unfold mf_80_b36 mf_195_b2
    by_cases c : k < l
    · have c2 := c
      rw [Int32.lt_iff_toInt_lt] at c2
      rw [if_pos c, if_pos (show b < l.toInt64 from by rw [Int64.lt_iff_toInt_lt, Int32.toInt_toInt64]; omega), if_pos hW.1.2.2.2.2.1]
      have := mq_hi l
      have ek : (k + 1).toInt = k.toInt + 1 := by rw [mi_add]; simp only [Int32.reduceToInt]; omega
      have eb : (b + 1).toInt = b.toInt + 1 := by rw [mj_add]; simp only [Int64.reduceToInt]; omega
      refine mq_2_B (mq_next1 hW) ?_ ?_
      · rintro v M3 b' N3 ⟨rfl, v0, v1, hW3, hl3, hr3, hs3⟩
        rw [if_pos hW3.1.2.2.2.2.1]
        refine mq_2_B (mq_2_K (mq_putp1 hW3 v0 v1) mk_52 mk_194) ?_ ?_
        · rintro _ M4 b4 N4 ⟨⟨rfl, hW4, hl4, hr4, hs4⟩, k1, k2⟩
          rw [if_neg (show ¬ (1 : Int32) = 0 from by decide)]
          exact mq_2_ret (.inl ⟨_, _, rfl, rfl, ⟨by omega, by omega, by omega, hW4, mq_le_trans hl (mq_le_trans hl3 hl4)⟩, by omega⟩)
        · rintro M4 b4 N4 ⟨⟨rfl, hx⟩, k1, k2⟩
          rw [if_pos rfl]
          refine mq_1_ret (.inl ⟨_, rfl, mq_X_ob hx (mq_ob_same mq_ob_refl ?_)⟩)
          rw [mi_z, (k2 84 8 rfl).1]
      · intro M3 b' N3 hx
        rw [if_neg (by rw [hx.2.2.2.1]; decide)]
        exact mq_1_ret (.inl ⟨_, rfl, mq_X_ob hx (mq_ob_same mq_ob_refl (mi_z _))⟩)
    · have c2 := c
      rw [Int32.lt_iff_toInt_lt] at c2
      rw [if_neg c, if_neg (show ¬ b < l.toInt64 from by rw [Int64.lt_iff_toInt_lt, Int32.toInt_toInt64]; omega)]
      exact mq_2_ret (.inr ⟨_, _, rfl, rfl, hW, hl⟩)
  · intro M2 b N2 hx
    exact mq_xd hx (fun z => md_195L z mq_ob_refl)
theorem mq_rem_le {M N M2 N2 : mm_M} (h : mq_S M N) (hW : mq_W M2 N2) (hl : (M.1 1 2).toInt + 1 ≤ (M2.1 1 2).toInt) (e : M2.1 1 1 = M.1 1 1) : mq_rem M2 < mq_rem M := by
  have g := hW.1.2.2.2.1
  have e6 : M2.1 1 6 = 0 := g.1.trans hW.2
  have := h.2.2.2.1.2.1
  unfold mq_rem
  rw [e6, e]
  simp only [Int32.reduceToInt]
  omega
theorem mq_S_left {M N : mm_M} (h : mq_S M N) : mq_W (mm_pi M 1 6 0) (mm_pi N 84 15 0) := ⟨⟨h.1, h.2.1, h.2.2.1, ⟨rfl, (by decide : 0 ≤ (0 : Int32).toInt), (by decide : (0 : Int32).toInt < 8), fun q => absurd rfl q⟩, h.2.2.2.2⟩, rfl⟩
theorem mq_stored {M N : mm_M} (h : mq_S M N) : mq_2 mq_XE (mf_80 M) (mf_204 N) (fun _ M2 _ N2 => mq_W M2 N2 ∧ mq_rem M2 < mq_rem M) := by
  unfold mf_80 mf_204
  refine mq_2_B (mq_low_left (mq_S_left h) (by decide) (by decide)) ?_ ?_
  · rintro l M2 b N2 ⟨rfl, l1, hW, hl, hr, hs⟩
    simp only [Int32.reduceToInt] at hr
    have l2 : mq_n l < 65536 := l1 (by decide)
    have l3 : l.toInt32.toInt = mq_n l := mi_64to32 (by omega)
    refine mq_2_B (mq_low1 hW (by decide) (by decide)) ?_ ?_
    · rintro c M3 b N3 ⟨rfl, c1, hW3, hl3, hr3, hs3⟩
      simp only [Int32.reduceToInt] at hr3
      rw [if_pos hW3.1.2.2.2.2.1]
      unfold mf_80_j31 mf_204_j38 mf_195
      by_cases d : c.toInt32 = 65535 - l.toInt32
      · rw [if_pos d, if_pos d, mq_27, mq_Bs, mq_Ba]
        refine mq_2_B (mq_passI hW3 (by omega)) ?_ (fun _ _ _ q => mq_1_ret q)
        rintro _ M4 _ N4 ⟨q1, q2⟩
        have e11 : M4.1 1 1 = M.1 1 1 := by rw [q2.2.1, hl3.2.1, hl.2.1]
        have q3 := q2.1
        exact mq_2_ret ⟨q1, mq_rem_le h q1 (by omega) e11⟩
      · rw [if_neg d, if_neg d, mq_27t, mq_Bt, mq_190, mq_Bs, mq_Ba]
        obtain ⟨t, N4, e, hx⟩ := mq_xd (mq_X_th (mq_W_bad hW3)) (fun z => md_195L (v := l.toInt32.toInt64) (s := 0) z mq_ob_refl)
        rw [e]
        exact mq_2_thr hx
    · intro M3 b N3 hx
      rw [if_neg (by rw [hx.2.2.2.1]; decide)]
      exact mq_xd hx (fun z => md_204_j38 z mq_ob_refl)
  · intro M2 b N2 hx
    refine mq_1_B (mq_xd hx (fun z => md_193 z)) (fun _ _ hx => ?_)
    rw [if_neg (by rw [hx.2.2.2.1]; decide)]
    exact mq_xd hx (fun z => md_204_j38 z mq_ob_refl)
theorem mq_num1 {N : mm_M} (w : N.1 84 7 = 0) : mf_198 1 N = mm_B (mf_197 N) (fun r1 M2 => if M2.1 84 13 = 0 then some (.inl ((0 : Int64) ||| mm_lshl r1.toInt64 0), M2) else some (.inl (mm_lshl (0 : Int64) 1 ||| r1.toInt64), M2)) := by
  unfold mf_198 mf_198_L5
  rw [mm_L_eq]
  show mm_B (mm_B (mf_198_b5 1 0 0 N) _) _ = _
  unfold mf_198_b5
  rw [if_pos (show (0 : Int32) < 1 from by decide), if_pos w, mq_Ba, mq_Ba]
  congr 1
  funext r M2
  by_cases c : M2.1 84 13 = 0
  · rw [if_pos c, if_pos c, mq_Bs]
    show mm_B (mm_L _ ((0 : Int64) ||| mm_lshl r.toInt64 0, (0 : Int32) + 1) M2) _ = _
    rw [mm_L_eq]
    rfl
  · rw [if_neg c, if_neg c, mq_Bs]
    show mm_B (mm_L _ (mm_lshl (0 : Int64) 1 ||| r.toInt64, (0 : Int32) + 1) M2) _ = _
    rw [mm_L_eq]
    rfl
theorem mq_bit1 {M N : mm_M} (h : mq_S M N) (hf : M.1 1 4 = N.1 84 13) : mq_2 mq_XE (mf_45 M) (mf_198 1 N) (fun v M2 b N2 => (v = 0 ∧ b = 0 ∨ v = 1 ∧ b = 1) ∧ mq_S M2 N2 ∧ M2.1 1 4 = N2.1 84 13 ∧ mq_rem M2 + 1 = mq_rem M) := by
  rw [mq_num1 h.2.2.2.2.1]
  refine mq_2_By (mq_bit h hf) ?_ ?_
  · rintro v M2 b N2 ⟨rfl, hv, hS, hf2, hr⟩
    refine mq_2_ir (fun _ => ?_) (fun _ => ?_)
    · refine mq_2_ret ⟨?_, hS, hf2, hr⟩
      rcases hv with rfl | rfl
      · exact .inl ⟨rfl, rfl⟩
      · exact .inr ⟨rfl, rfl⟩
    · refine mq_2_ret ⟨?_, hS, hf2, hr⟩
      rcases hv with rfl | rfl
      · exact .inl ⟨rfl, rfl⟩
      · exact .inr ⟨rfl, rfl⟩
  · intro M2 b N2 hx
    exact mq_1_ite (fun _ => mq_1_ret hx) (fun _ => mq_1_ret hx)
