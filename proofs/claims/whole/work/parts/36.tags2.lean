/-! FORM 8: TAGS, WHOLE -/
theorem mq_2_By {α β δ : Type} {E : mm_M → β → mm_M → Prop} {E2 : mm_M → δ → mm_M → Prop} {P : α → mm_M → β → mm_M → Prop} {R : α → mm_M → δ → mm_M → Prop} {x : mm_O α} {y : mm_O β} {g : β → mm_M → mm_O δ} (h : mq_2 E x y P) (hs : ∀ a M b N, P a M b N → mq_2 E2 (some (.inl a, M)) (g b N) R) (he : ∀ M b N, E M b N → mq_1 (g b N) (fun c N2 => E2 M c N2)) : mq_2 E2 x (mm_B y g) R := by
  obtain ⟨b, N, e, q⟩ := h
  rw [e]
  rcases q with ⟨a, M, e1, q⟩ | ⟨M, e1, q⟩
  · rw [e1]; exact hs _ _ _ _ q
  · rw [e1]
    obtain ⟨c, N2, e2, q2⟩ := he _ _ _ q
    exact ⟨c, N2, e2, .inr ⟨M, rfl, q2⟩⟩
theorem mq_tagP {M N : mm_M} {n s1 l : Int64} {k t : Int32} (h : mq_W M N) (hn : n.toInt ≤ 16384) (hs : (M.1 3 1).toInt ≤ n.toInt) (l0 : 1 ≤ l.toInt) (l1 : l.toInt ≤ 4294967296) (el : 1 + s1 = l) : mq_2 mq_XE (mf_124_j90 n k 1 s1 M) (mf_222_j59 t (n - (M.1 3 1).toInt64) 0 l N) (fun r M2 _ N2 => r = .inl (k + 1) ∧ mq_W M2 N2 ∧ mq_le M M2 ∧ (M2.1 3 1).toInt ≤ n.toInt) := by
  obtain ⟨u1, u2, u3, u4⟩ := h.1.2.1
  unfold mf_124_j90 mf_222_j59
  rw [el, if_pos h.1.2.2.2.2.1]
  have e1 : ((M.1 3 1).toInt64 + l).toInt = (M.1 3 1).toInt + l.toInt := by rw [mj_add, Int32.toInt_toInt64]; omega
  have e2 : (n - (M.1 3 1).toInt64).toInt = n.toInt - (M.1 3 1).toInt := by rw [mj_sub, Int32.toInt_toInt64]; omega
  unfold mf_124_j114 mf_222_j77
  by_cases c : n < (M.1 3 1).toInt64 + l
  · have c2 : n - (M.1 3 1).toInt64 < l := by rw [Int64.lt_iff_toInt_lt] at c ⊢; omega
    rw [if_pos c, if_pos c2, mq_27t, mq_190]
    show mq_2 _ (some (Sum.inr 0, mm_th M)) (mm_B (mf_195 l (mm_pi N 84 7 1)) (fun _ M1 => some (Sum.inl (), M1))) _
    obtain ⟨b, N2, e, hx⟩ := mq_xd (mq_W_bad h) (fun z => md_195 (v := l) z)
    rw [e]
    exact mq_2_thr hx
  · have c2 : ¬ n - (M.1 3 1).toInt64 < l := by rw [Int64.lt_iff_toInt_lt] at c ⊢; omega
    rw [if_neg c, if_neg c2, mq_27, if_pos rfl]
    show mq_2 _ (mm_B (mf_120 l M) _) _ _
    rw [Int64.lt_iff_toInt_lt] at c
    refine mq_2_B (mq_pass h (by omega)) ?_ (fun _ _ _ hx => mq_1_ret hx)
    rintro _ M2 _ N2 ⟨q1, q2, q3, q4⟩
    exact mq_2_ret ⟨rfl, q1, q2, by omega⟩
theorem mq_tagC {M N : mm_M} {n : Int64} {k t l : Int32} (h : mq_W M N) (hn : n.toInt ≤ 16384) (hs : (M.1 3 1).toInt ≤ n.toInt) (t0 : 0 ≤ t.toInt) (t1 : t.toInt < 256) (ht : ¬ mm_rem t 4 = 0) (l0 : 0 ≤ l.toInt) (l1 : l.toInt ≤ 256) : mq_2 mq_XE (mf_124_j148 n k t l M) (mf_222_j59 t (n - (M.1 3 1).toInt64) (mm_rem t 4) l.toInt64 N) (fun r M2 _ N2 => r = .inl (k + 1) ∧ mq_W M2 N2 ∧ mq_le M M2) := by
  obtain ⟨u1, u2, u3, u4⟩ := h.1.2.1
  unfold mf_124_j148 mf_222_j59
  rw [if_pos h.1.2.2.2.2.1]
  have e1 : ((M.1 3 1) + l).toInt = (M.1 3 1).toInt + l.toInt := by rw [mi_add]; omega
  have e2 : (n - (M.1 3 1).toInt64).toInt = n.toInt - (M.1 3 1).toInt := by rw [mj_sub, Int32.toInt_toInt64]; omega
  unfold mf_124_j171
  by_cases c : n < (M.1 3 1 + l).toInt64
  · have c2 : n - (M.1 3 1).toInt64 < l.toInt64 := by rw [Int64.lt_iff_toInt_lt, Int32.toInt_toInt64] at c ⊢; omega
    rw [if_pos c, if_pos c2, mq_27t, mq_190]
    show mq_2 _ (some (Sum.inr 0, mm_th M)) (mf_222_j77 t (mm_rem t 4) l.toInt64 (mm_pi N 84 7 1)) _
    unfold mf_222_j77
    rw [if_neg ht, if_neg (show ¬ (mm_pi N 84 7 1).1 84 7 = 0 from (by decide : ¬ (1 : Int32) = 0))]
    exact mq_2_thr (mq_W_bad h)
  · have c2 : ¬ n - (M.1 3 1).toInt64 < l.toInt64 := by rw [Int64.lt_iff_toInt_lt, Int32.toInt_toInt64] at c ⊢; omega
    rw [if_neg c, if_neg c2, mq_27]
    have hd := mq_tagd (l := l.toInt64) h t0 t1 ht (by rw [Int32.toInt_toInt64]; exact l0) (by rw [Int32.toInt_toInt64]; exact l1)
    rw [mi_3264] at hd
    show mq_2 _ (mm_B (mf_126 t M) (fun r2 M3 => mm_B (mf_53 l r2 M3) (fun _ M4 => some (Sum.inl (Sum.inl (k + 1)), M4)))) _ _
    have ea : mm_B (mf_126 t M) (fun r2 M3 => mm_B (mf_53 l r2 M3) (fun _ M4 => some (Sum.inl (Sum.inl (k + 1)), M4))) = mm_B (mm_B (mf_126 t M) (fun r2 M3 => mf_53 l r2 M3)) (fun _ M4 => (some (Sum.inl (Sum.inl (k + 1)), M4) : mm_O (Int32 ⊕ Unit))) := by
      match mf_126 t M with
      | none => rfl
      | some (.inl a, N) => rfl
      | some (.inr x, N) => rfl
    rw [ea]
    refine mq_2_Bl' hd ?_
    rintro _ M2 _ N2 ⟨q1, q2⟩
    exact ⟨_, rfl, rfl, q1, q2⟩
theorem md_222x {A M : mm_M} {v1 : Int32} {v2 : Int64} (hz : mq_Z A) (g : mq_ob A M) : mq_D A (mf_222 v1 v2 M) := mq_d_c hz g (fun z => md_222 z)
theorem mq_tag {M N : mm_M} {n : Int64} {k t : Int32} (h : mq_W M N) (hn : n.toInt ≤ 16384) (hs : (M.1 3 1).toInt ≤ n.toInt) (t0 : 0 ≤ t.toInt) (t1 : t.toInt < 256) : mq_2 mq_XE (if mm_rem t 4 = 0 then (if mm_shr t 2 < 60 then mf_124_j90 n k 1 (mm_shr t 2).toInt64 M else mm_B (mf_47 (mm_shr t 2 - 59) M) (fun r3 M4 => mf_124_j90 n k 1 r3 M4)) else (if mm_rem t 4 = 1 then mf_124_j148 n k t (4 + mm_rem (mm_shr t 2) 8) M else mf_124_j148 n k t (mm_shr t 2 + 1) M)) (mf_222 t (n - (M.1 3 1).toInt64) N) (fun r M2 _ N2 => r = .inl (k + 1) ∧ mq_W M2 N2 ∧ mq_le M M2) := by
  have ed : mm_shr t 2 = t / 4 := mi_shrdiv t0 (by decide) (by decide) rfl
  have e4 : (t / 4).toInt = t.toInt / 4 := mi_div t0 (by decide)
  rw [ed]
  unfold mf_222
  by_cases c : mm_rem t 4 = 0
  · rw [if_pos c, if_neg (show ¬ mm_rem t 4 = 1 from by rw [c]; decide)]
    unfold mf_222_j32
    rw [c, if_pos rfl]
    by_cases d : t / 4 < 60
    · rw [if_pos d, if_pos d]
      rw [Int32.lt_iff_toInt_lt] at d
      simp only [Int32.reduceToInt] at d
      have e5 : (t / 4 + 1).toInt = t.toInt / 4 + 1 := by rw [mi_add, e4]; simp only [Int32.reduceToInt]; omega
      have e6 : (1 : Int64) + (t / 4).toInt64 = (t / 4 + 1).toInt64 := Int64.toInt_inj.mp (by rw [mj_add, Int32.toInt_toInt64, Int32.toInt_toInt64, e5, e4]; simp only [Int64.reduceToInt]; omega)
      refine mq_2_mono (mq_tagP h hn hs (by rw [Int32.toInt_toInt64, e5]; omega) (by rw [Int32.toInt_toInt64, e5]; omega) e6) ?_ (fun _ _ _ q => q)
      rintro r M2 _ N2 ⟨q1, q2, q3, _⟩
      exact ⟨q1, q2, q3⟩
    · rw [if_neg d, if_neg d]
      rw [Int32.lt_iff_toInt_lt] at d
      simp only [Int32.reduceToInt] at d
      have e5 : (t / 4 - 59).toInt = t.toInt / 4 - 59 := by rw [mi_sub, e4]; simp only [Int32.reduceToInt]; omega
      refine mq_2_B (mq_low1 h (by omega) (by omega)) ?_ ?_
      · rintro v M3 b N3 ⟨rfl, v1, hW3, hl3, hr3, hs3⟩
        have hp : 2 ^ (8 * (t / 4 - 59).toInt.toNat) ≤ 2 ^ 32 := Nat.pow_le_pow_right (by decide) (by omega)
        have v2 : mq_n v < 4294967296 := Nat.lt_of_lt_of_le (v1 (by omega)) hp
        have v3 : v.toInt = mq_n v := mq_n_int (by omega)
        have e6 : (v + 1).toInt = v.toInt + 1 := by rw [mj_add]; simp only [Int64.reduceToInt]; omega
        rw [← hs3]
        refine mq_2_mono (mq_tagP hW3 hn (by rw [hs3]; exact hs) (by omega) (by omega) (Int64.add_comm _ _)) ?_ (fun _ _ _ q => q)
        rintro r M2 _ N2 ⟨q1, q2, q3, _⟩
        exact ⟨q1, q2, mq_le_trans hl3 q3⟩
      · intro M3 b N3 hx
        exact mq_xd hx (fun z => md_222_j59 z mq_ob_refl)
  · rw [if_neg c]
    by_cases d : mm_rem t 4 = 1
    · rw [if_pos d, if_pos d]
      unfold mf_222_j32
      rw [if_neg c]
      have e5 : (mm_rem (t / 4) 8).toInt = (t.toInt / 4) % 8 := by rw [mi_rem (by omega) (by decide), e4]; simp only [Int32.reduceToInt]
      have e6 : (4 + mm_rem (t / 4) 8).toInt = 4 + (t.toInt / 4) % 8 := by rw [mi_add, e5]; simp only [Int32.reduceToInt]; omega
      exact mq_tagC h hn hs t0 t1 c (by omega) (by omega)
    · rw [if_neg d, if_neg d]
      unfold mf_222_j32
      rw [if_neg c]
      have e5 : (t / 4 + 1).toInt = t.toInt / 4 + 1 := by rw [mi_add, e4]; simp only [Int32.reduceToInt]; omega
      exact mq_tagC h hn hs t0 t1 c (by omega) (by omega)
theorem mq_tags {M N : mm_M} (h : mq_W M N) (hr : M.1 1 2 = 0) (h3 : M.1 3 1 = 0) : mq_2 mq_XE (mf_124 M) (mf_221 N) (fun _ M2 _ N2 => mq_S M2 N2) := by
  unfold mf_124 mf_221
  refine mq_2_B (mq_tagn h) ?_ ?_
  · rintro n M2 b N2 ⟨rfl, n0, n1, hW, hl, hs⟩
    unfold mf_221_j81
    rw [if_pos hW.1.2.2.2.2.1]
    unfold mf_124_j18
    by_cases c : 16384 < n
    · rw [if_pos c, if_pos c, mq_27t, mq_190]
      show mq_2 _ (some (Sum.inr 0, mm_th M2)) (mm_B (mf_221_L100 n () (mm_pi N2 84 7 1)) _) _
      obtain ⟨b, N3, e, hx⟩ := mq_xd (mq_W_bad hW) (fun z => md_221_L100 (v1 := n) (s := ()) z mq_ob_refl)
      rw [e]
      exact mq_2_thr hx
    · rw [if_neg c, if_neg c, mq_27]
      rw [Int64.lt_iff_toInt_lt] at c
      simp only [Int64.reduceToInt] at c
      show mq_2 _ (mm_B (mf_124_L23 n 0 M2) _) (mm_B (mf_221_L100 n () N2) _) _
      refine mq_2_B (E := mq_XE) (P := fun _ M2 _ N2 => mq_S M2 N2) ?_ (fun _ _ _ _ q => mq_2_ret q) (fun _ _ _ q => mq_1_ret q)
      unfold mf_124_L23 mf_221_L100
      refine mq_2_L (I := fun a M2 _ N2 => 0 ≤ a.toInt ∧ a.toInt ≤ (M2.1 1 2).toInt ∧ mq_W M2 N2) (J := fun M _ N => mq_X M N) (m := fun _ M => ((M.1 1 1).toInt - (M.1 1 2).toInt).toNat) ?_ ?_ ⟨by decide, (mq_W_lim hW).1, hW⟩
      · rintro k M3 b N3 ⟨k0, k1, hW3⟩
        obtain ⟨l1, l2, l3, l4⟩ := mq_W_lim hW3
        have eU : N3.1 84 4 = M3.1 3 1 := hW3.1.2.1.1.symm
        unfold mf_124_b23 mf_221_b100
        rw [if_pos (show k < 1000000 from by rw [Int32.lt_iff_toInt_lt]; simp only [Int32.reduceToInt]; omega), if_pos hW3.1.2.2.2.2.1, eU]
        have ek : (k + 1).toInt = k.toInt + 1 := by rw [mi_add]; simp only [Int32.reduceToInt]; omega
        by_cases c3 : (M3.1 3 1).toInt64 < n
        · rw [if_pos c3, if_pos c3]
          rw [Int64.lt_iff_toInt_lt, Int32.toInt_toInt64] at c3
          refine mq_2_B (mq_next1 hW3) ?_ ?_
          · rintro t M4 b N4 ⟨rfl, t0, t1, hW4, hl4, hr4, hs4⟩
            have eU4 : N4.1 84 4 = M4.1 3 1 := hW4.1.2.1.1.symm
            rw [if_pos hW4.1.2.2.2.2.1, eU4]
            refine mq_2_By (mq_tag hW4 (by omega) (by rw [hs4]; omega) t0 t1) ?_ ?_
            · rintro r M5 _ N5 ⟨rfl, hW5, hl5⟩
              obtain ⟨p1, p2, p3, p4⟩ := mq_W_lim hW5
              have q5 := hl5.1
              have t5 : M5.1 1 1 = M3.1 1 1 := hl5.2.1.trans hl4.2.1
              refine mq_2_ret (.inl ⟨_, _, rfl, rfl, ⟨by omega, by omega, hW5⟩, ?_⟩)
              rw [t5] at p3 ⊢
              omega
            · intro M5 b N5 hx
              exact mq_1_ret (.inl ⟨_, rfl, hx⟩)
          · intro M4 b N4 hx
            rw [if_neg (by rw [hx.2.2.2.1]; decide)]
            exact mq_1_ret (.inl ⟨_, rfl, hx⟩)
        · rw [if_neg c3, if_neg c3]
          exact mq_2_ret (.inr ⟨_, _, rfl, rfl, hW3.1⟩)
      · intro M3 b N3 hx
        exact mq_xd hx (fun z => md_221_L100 z mq_ob_refl)
  · intro M2 b N2 hx
    exact mq_xd hx (fun z => md_221_j81 z mq_ob_refl)
