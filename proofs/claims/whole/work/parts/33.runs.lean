/-! FORM 0, AND PLAIN BYTES -/
def mq_W (M N : mm_M) : Prop := mq_S M N ∧ N.1 84 15 = 0
def mq_le (M M2 : mm_M) : Prop := (M.1 1 2).toInt ≤ (M2.1 1 2).toInt ∧ M2.1 1 1 = M.1 1 1 ∧ M2.1 1 3 = M.1 1 3
abbrev mq_XE {β : Type} : mm_M → β → mm_M → Prop := fun M _ N => mq_X M N
theorem mq_le_refl {M : mm_M} : mq_le M M := ⟨Int.le_refl _, rfl, rfl⟩
theorem mq_le_trans {A B C : mm_M} (h : mq_le A B) (g : mq_le B C) : mq_le A C := ⟨Int.le_trans h.1 g.1, g.2.1.trans h.2.1, g.2.2.trans h.2.2⟩
theorem mq_W_lim {M N : mm_M} (h : mq_W M N) : 0 ≤ (M.1 1 2).toInt ∧ (M.1 1 2).toInt ≤ (M.1 1 3).toInt ∧ (M.1 1 3).toInt ≤ (M.1 1 1).toInt ∧ (M.1 1 1).toInt ≤ 10000 := ⟨h.1.2.2.2.2.2.1, h.1.2.2.2.2.2.2.1, h.1.2.2.2.2.2.2.2.1, h.1.1.2.2.1⟩
theorem mq_next1 {M N : mm_M} (h : mq_W M N) : mq_2 mq_XE (mf_44 M) (mf_191 N) (fun v M2 b N2 => v = b ∧ 0 ≤ v.toInt ∧ v.toInt < 256 ∧ mq_W M2 N2 ∧ mq_le M M2 ∧ (M2.1 1 2).toInt = (M.1 1 2).toInt + 1 ∧ M2.1 3 1 = M.1 3 1) := by
  refine mq_2_mono (mq_2_K (mq_next h.1 h.2) mk_44 mk_191) ?_ (fun _ _ _ q => q.1)
  rintro v M2 b N2 ⟨⟨q1, q2, q3, q4, q5, q6⟩, k1, k2⟩
  exact ⟨q1, q2, q3, ⟨q4, q5⟩, ⟨by omega, (k1 1 1 rfl).1, (k1 1 3 rfl).1⟩, q6, (k1 3 1 rfl).1⟩
theorem mq_low1 {M N : mm_M} {n : Int32} (h : mq_W M N) (h0 : 0 ≤ n.toInt) (h1 : n.toInt ≤ 8) : mq_2 mq_XE (mf_47 n M) (mf_193 n N) (fun v M2 b N2 => v = b ∧ (n.toInt ≤ 7 → mq_n v < 2 ^ (8 * n.toInt.toNat)) ∧ mq_W M2 N2 ∧ mq_le M M2 ∧ (M2.1 1 2).toInt = (M.1 1 2).toInt + n.toInt ∧ M2.1 3 1 = M.1 3 1) := by
  refine mq_2_mono (mq_2_K (mq_low h.1 h.2 h0 h1) mk_47 mk_193) ?_ (fun _ _ _ q => q.1)
  rintro v M2 b N2 ⟨⟨q1, q2, q4, q5, q6⟩, k1, k2⟩
  exact ⟨q1, q2, ⟨q4, q5⟩, ⟨by omega, (k1 1 1 rfl).1, (k1 1 3 rfl).1⟩, q6, (k1 3 1 rfl).1⟩
theorem mq_put1 {M N : mm_M} {v : Int32} (h : mq_W M N) (v0 : 0 ≤ v.toInt) (v1 : v.toInt < 256) : mq_2 (fun M b N => b = 0 ∧ mq_X M N) (mf_51 v M) (mf_194 v N) (fun _ M2 b N2 => b = 1 ∧ mq_W M2 N2 ∧ mq_le M M2 ∧ (M2.1 1 2).toInt = (M.1 1 2).toInt ∧ (M2.1 3 1).toInt = (M.1 3 1).toInt + 1) := by
  refine mq_2_mono (mq_2_K (mq_put h.1 v0 v1) mk_51 mk_194) ?_ (fun _ _ _ q => q.1)
  rintro v M2 b N2 ⟨⟨q1, q2, q3, q4⟩, k1, k2⟩
  have e := (k1 1 2 rfl).1
  exact ⟨q1, ⟨q2, by rw [(k2 84 15 rfl).1]; exact h.2⟩, ⟨by rw [e]; exact Int.le_refl _, (k1 1 1 rfl).1, (k1 1 3 rfl).1⟩, by rw [e], q3⟩
theorem mq_putp1 {M N : mm_M} {v : Int32} (h : mq_W M N) (v0 : 0 ≤ v.toInt) (v1 : v.toInt < 256) : mq_2 (fun M b N => b = 0 ∧ mq_X M N) (mf_52 v M) (mf_194 v N) (fun _ M2 b N2 => b = 1 ∧ mq_W M2 (mm_pi N2 84 8 (N.1 84 8 + 1)) ∧ mq_le M M2 ∧ (M2.1 1 2).toInt = (M.1 1 2).toInt ∧ (M2.1 3 1).toInt = (M.1 3 1).toInt + 1) := by
  refine mq_2_mono (mq_2_K (mq_putp h.1 v0 v1) mk_52 mk_194) ?_ (fun _ _ _ q => q.1)
  rintro v M2 b N2 ⟨⟨q1, q2, q3, q4, q5⟩, k1, k2⟩
  have e := (k1 1 2 rfl).1
  rw [q3] at q2
  exact ⟨q1, ⟨q2, by show N2.1 84 15 = 0; rw [(k2 84 15 rfl).1]; exact h.2⟩, ⟨by rw [e]; exact Int.le_refl _, (k1 1 1 rfl).1, (k1 1 3 rfl).1⟩, by rw [e], q4⟩
theorem mq_copy1 {M N : mm_M} {len fl : Int32} {dist : Int64} (h : mq_W M N) (l0 : 0 ≤ len.toInt) (l1 : len.toInt ≤ 100000) (d0 : 0 ≤ dist.toInt) (hfl : fl = 0 ∨ (0 ≤ fl.toInt ∧ 1 ≤ dist.toInt ∧ dist.toInt ≤ (M.1 3 1).toInt - fl.toInt)) : mq_2 mq_XE (mf_53 len dist M) (mf_196 len dist fl N) (fun _ M2 _ N2 => mq_W M2 N2 ∧ mq_le M M2 ∧ (M2.1 1 2).toInt = (M.1 1 2).toInt ∧ (M2.1 3 1).toInt = (M.1 3 1).toInt + len.toInt) := by
  refine mq_2_mono (mq_2_K (mq_copy h.1 l0 l1 d0 hfl) mk_53 mk_196) ?_ (fun _ _ _ q => q.1)
  rintro v M2 b N2 ⟨⟨q2, q3, q4⟩, k1, k2⟩
  have e := (k1 1 2 rfl).1
  exact ⟨⟨q2, by rw [(k2 84 15 rfl).1]; exact h.2⟩, ⟨by rw [e]; exact Int.le_refl _, (k1 1 1 rfl).1, (k1 1 3 rfl).1⟩, by rw [e], q3⟩
theorem mq_runA {M N : mm_M} {n z : Int32} (h : mq_W M N) (n0 : 0 ≤ n.toInt) (n1 : n.toInt < 256) : mq_2 mq_XE (mf_117_L35 z n 0 M) (mf_214_L32 n 0 N) (fun _ M2 _ N2 => mq_W M2 N2 ∧ mq_le M M2) := by
  unfold mf_117_L35 mf_214_L32
  refine mq_2_L (I := fun a M2 b N2 => a = b ∧ 0 ≤ a.toInt ∧ mq_W M2 N2 ∧ mq_le M M2) (J := fun M _ N => mq_X M N) (m := fun a _ => (n.toInt + 1 - a.toInt).toNat) ?_ ?_ ⟨rfl, by decide, h, mq_le_refl⟩
  · rintro k M2 b N2 ⟨rfl, k0, hW, hl⟩
    unfold mf_117_b35 mf_214_b32
    by_cases c : n < k
    · rw [if_pos c, if_pos c]
      exact mq_2_ret (.inr ⟨_, _, rfl, rfl, hW, hl⟩)
    · rw [if_neg c, if_neg c, if_pos hW.1.2.2.2.2.1]
      rw [Int32.lt_iff_toInt_lt] at c
      have ek : (k + 1).toInt = k.toInt + 1 := by rw [mi_add]; simp only [Int32.reduceToInt]; omega
      refine mq_2_B (mq_next1 hW) ?_ ?_
      · rintro v M3 b N3 ⟨rfl, v0, v1, hW3, hl3, _⟩
        refine mq_2_B (mq_put1 hW3 v0 v1) ?_ ?_
        · rintro _ M4 b N4 ⟨rfl, hW4, hl4, _⟩
          exact mq_2_ret (.inl ⟨_, _, rfl, rfl, ⟨rfl, by omega, hW4, mq_le_trans hl (mq_le_trans hl3 hl4)⟩, by omega⟩)
        · rintro M4 b N4 ⟨_, hx⟩
          exact mq_1_ret (.inl ⟨_, rfl, hx⟩)
      · intro M3 b N3 hx
        refine mq_1_B (mq_xd hx (fun z => md_194 z)) (fun _ _ hx => mq_1_ret (.inl ⟨_, rfl, hx⟩))
  · intro M2 b N2 hx
    exact mq_xd hx (fun z => md_214_L32 z mq_ob_refl)
theorem mq_runB {M N : mm_M} {n z w : Int32} (h : mq_W M N) (n0 : 0 ≤ n.toInt) (n1 : n.toInt < 256) (w0 : 0 ≤ w.toInt) (w1 : w.toInt < 256) : mq_2 mq_XE (mf_117_L81 z n w 0 M) (mf_214_L78 n w 0 N) (fun _ M2 _ N2 => mq_W M2 N2 ∧ mq_le M M2) := by
  unfold mf_117_L81 mf_214_L78
  refine mq_2_L (I := fun a M2 b N2 => a = b ∧ 0 ≤ a.toInt ∧ mq_W M2 N2 ∧ mq_le M M2) (J := fun M _ N => mq_X M N) (m := fun a _ => (257 - a.toInt).toNat) ?_ ?_ ⟨rfl, by decide, h, mq_le_refl⟩
  · rintro k M2 b N2 ⟨rfl, k0, hW, hl⟩
    unfold mf_117_b81 mf_214_b78
    by_cases c : k < 257 - n
    · rw [if_pos c, if_pos c, if_pos hW.1.2.2.2.2.1]
      rw [Int32.lt_iff_toInt_lt, mi_sub] at c
      simp only [Int32.reduceToInt] at c
      have ek : (k + 1).toInt = k.toInt + 1 := by rw [mi_add]; simp only [Int32.reduceToInt]; omega
      refine mq_2_B (mq_put1 hW w0 w1) ?_ ?_
      · rintro _ M4 b N4 ⟨rfl, hW4, hl4, _⟩
        exact mq_2_ret (.inl ⟨_, _, rfl, rfl, ⟨rfl, by omega, hW4, mq_le_trans hl hl4⟩, by omega⟩)
      · rintro M4 b N4 ⟨_, hx⟩
        exact mq_1_ret (.inl ⟨_, rfl, hx⟩)
    · rw [if_neg c, if_neg c]
      exact mq_2_ret (.inr ⟨_, _, rfl, rfl, hW, hl⟩)
  · intro M2 b N2 hx
    exact mq_xd hx (fun z => md_214_L78 z mq_ob_refl)
theorem mq_runs {M N : mm_M} (h : mq_W M N) (he : M.1 1 3 = M.1 1 1) (hr : M.1 1 2 = 0) : mq_2 mq_XE (mf_117 M) (mf_214 N) (fun _ M2 _ N2 => mq_S M2 N2) := by
  unfold mf_117 mf_214
  refine mq_2_B (E := mq_XE) (P := fun _ M2 _ N2 => mq_S M2 N2) ?_ (fun _ _ _ _ q => mq_2_ret q) (fun _ _ _ q => mq_1_ret q)
  unfold mf_117_L2 mf_214_L0
  refine mq_2_L (I := fun a M2 _ N2 => 0 ≤ a.toInt ∧ a.toInt ≤ (M2.1 1 2).toInt ∧ mq_W M2 N2 ∧ M2.1 1 3 = M2.1 1 1) (J := fun M _ N => mq_X M N) (m := fun _ M => ((M.1 1 1).toInt - (M.1 1 2).toInt).toNat) ?_ ?_ ⟨by decide, by rw [hr]; decide, h, he⟩
  · rintro k M2 b N2 ⟨k0, k1, hW, he⟩
    obtain ⟨l1, l2, l3, l4⟩ := mq_W_lim hW
    have eT : (N2.1 84 2) = M2.1 1 1 := hW.1.1.1.symm
    have eV : (N2.1 84 5) = M2.1 1 2 := hW.1.2.2.1.1.symm
    unfold mf_117_b2 mf_214_b0
    rw [if_pos (show k < 1000000 from by rw [Int32.lt_iff_toInt_lt]; simp only [Int32.reduceToInt]; omega)]
    unfold mf_43
    rw [eT, eV, he]
    have ek : (k + 1).toInt = k.toInt + 1 := by rw [mi_add]; simp only [Int32.reduceToInt]; omega
    by_cases c : M2.1 1 2 < M2.1 1 1
    · rw [if_pos c, if_pos c, if_pos hW.1.2.2.2.2.1]
      rw [Int32.lt_iff_toInt_lt] at c
      show mq_2 _ (mm_B (mf_44 M2) _) _ _
      refine mq_2_B (mq_next1 hW) ?_ ?_
      · rintro v M3 b N3 ⟨rfl, v0, v1, hW3, hl3, hr3, _⟩
        have t1 : M3.1 1 1 = M2.1 1 1 := hl3.2.1
        by_cases c1 : v < 128
        · rw [if_pos c1, if_pos c1]
          refine mq_2_B (mq_runA hW3 v0 v1) ?_ ?_
          · rintro _ M4 _ N4 ⟨hW4, hl4⟩
            have t2 : M4.1 1 1 = M3.1 1 1 := hl4.2.1
            refine mq_2_ret (.inl ⟨_, _, rfl, rfl, ⟨by omega, by have := hl4.1; omega, hW4, ?_⟩, ?_⟩)
            · rw [hl4.2.2, hl3.2.2, t2, t1, he]
            · have := hl4.1; rw [t2, t1]; omega
          · intro M4 b N4 hx
            exact mq_1_ret (.inl ⟨_, rfl, hx⟩)
        · rw [if_neg c1, if_neg c1]
          by_cases c2 : 128 < v
          · rw [if_pos c2, if_pos c2]
            refine mq_2_B (mq_next1 hW3) ?_ ?_
            · rintro w M4 b N4 ⟨rfl, w0, w1, hW4, hl4, hr4, _⟩
              have t2 : M4.1 1 1 = M3.1 1 1 := hl4.2.1
              refine mq_2_B (mq_runB hW4 v0 v1 w0 w1) ?_ ?_
              · rintro _ M5 _ N5 ⟨hW5, hl5⟩
                have t3 : M5.1 1 1 = M4.1 1 1 := hl5.2.1
                refine mq_2_ret (.inl ⟨_, _, rfl, rfl, ⟨by omega, by have := hl5.1; omega, hW5, ?_⟩, ?_⟩)
                · rw [hl5.2.2, hl4.2.2, hl3.2.2, t3, t2, t1, he]
                · have := hl5.1; rw [t3, t2, t1]; omega
              · intro M4 b N4 hx
                exact mq_1_ret (.inl ⟨_, rfl, hx⟩)
            · intro M4 b N4 hx
              exact mq_1_B (mq_xd hx (fun z => md_214_L78 z mq_ob_refl)) (fun _ _ hx => mq_1_ret (.inl ⟨_, rfl, hx⟩))
          · rw [if_neg c2, if_neg c2]
            refine mq_2_ret (.inl ⟨_, _, rfl, rfl, ⟨by omega, by omega, hW3, ?_⟩, ?_⟩)
            · rw [hl3.2.2, t1, he]
            · rw [t1]; omega
      · intro M3 b N3 hx
        refine mq_1_ite (fun _ => ?_) (fun _ => mq_1_ite (fun _ => ?_) (fun _ => mq_1_ret (.inl ⟨_, rfl, hx⟩)))
        · exact mq_1_B (mq_xd hx (fun z => md_214_L32 z mq_ob_refl)) (fun _ _ hx => mq_1_ret (.inl ⟨_, rfl, hx⟩))
        · refine mq_1_B (mq_xd hx (fun z => md_191 z)) (fun _ _ hx => ?_)
          exact mq_1_B (mq_xd hx (fun z => md_214_L78 z mq_ob_refl)) (fun _ _ hx => mq_1_ret (.inl ⟨_, rfl, hx⟩))
    · rw [if_neg c, if_neg c]
      show mq_2 _ (some (Sum.inl (Sum.inr ()), M2)) _ _
      exact mq_2_ret (.inr ⟨_, _, rfl, rfl, hW.1⟩)
  · intro M2 b N2 hx
    exact mq_xd hx (fun z => md_214_L0 z mq_ob_refl)
