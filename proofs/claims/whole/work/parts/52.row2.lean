/-! BLOCKS: the row of lengths, whole -/
theorem mq_r150d {M N : mm_M} {v1 v4 v5 a : Int32} (hx : mq_X M N) : mq_1 (mm_B (mf_207_L150 v1 v4 v5 (a, (0 : Int32)) N) (fun r M2 => (some (.inl (.inl r), M2) : mm_O (Int32 ⊕ Unit)))) (fun t N => (∃ b, t = .inl b ∧ mq_X M N) ∨ (∃ v, t = .inr v ∧ mq_X M N)) := mq_1_B (mq_xd hx (fun z => md_207_L150 z mq_ob_refl)) (fun _ _ hx => mq_1_ret (.inl ⟨_, rfl, hx⟩))
theorem mq_r128d {M N : mm_M} {v1 v2 v4 v5 : Int32} (hx : mq_X M N) : mq_1 (mf_207_j128 v1 v2 v4 v5 N) (fun t N => (∃ b, t = .inl b ∧ mq_X M N) ∨ (∃ v, t = .inr v ∧ mq_X M N)) := by
  unfold mf_207_j128
  rw [if_neg (by rw [hx.2.2.2.1]; decide)]
  exact mq_r150d hx
theorem mq_r49d {M N : mm_M} {v1 v2 v3 v4 v5 : Int32} (hx : mq_X M N) : mq_1 (mf_207_j49 v1 v2 v3 v4 v5 N) (fun t N => (∃ b, t = .inl b ∧ mq_X M N) ∨ (∃ v, t = .inr v ∧ mq_X M N)) := by
  unfold mf_207_j49
  rw [if_neg (by rw [hx.2.2.2.1]; decide)]
  exact mq_r128d hx
/-- what the row is while it is read -/
def mq_rowi (f : Nat → Nat) (at_ : Int32) (M N : mm_M) : Prop := mq_S M N ∧ M.1 1 4 = N.1 84 13 ∧ mq_TC 27 f 19 M ∧ mq_TR 2 f 19 N ∧ 0 ≤ at_.toInt ∧ ∀ j : Nat, (j : Int) < at_.toInt → M.1 32 j = N.1 90 j ∧ 0 ≤ (M.1 32 j).toInt ∧ (M.1 32 j).toInt ≤ 15
theorem mq_r132 {M N : mm_M} {f : Nat → Nat} {at_ all what tm : Int32} (h : mq_rowi f at_ M N) (ha : all.toInt ≤ 320) (t0 : 1 ≤ tm.toInt) (t1 : tm.toInt ≤ 200) (a1 : at_.toInt ≤ all.toInt) (w0 : 0 ≤ what.toInt) (w1 : what.toInt ≤ 15) : mq_2 (fun M t N => (∃ b, t = .inl b ∧ mq_X M N) ∨ (∃ v, t = .inr v ∧ mq_X M N)) (mf_84_j132 all at_ what tm M) (mf_207_j128 all at_ tm what N) (fun r M2 t N2 => ∃ x, r = .inl x ∧ t = .inl x ∧ mq_rowi f x M2 N2 ∧ x.toInt ≤ all.toInt ∧ at_.toInt < x.toInt ∧ mq_rem M2 = mq_rem M) := by
  obtain ⟨hS, hf, hC, hR, a0, hv⟩ := h
  unfold mf_84_j132 mf_207_j128 mf_84_j145
  rw [if_pos hS.2.2.2.2.1]
  have e1 : (at_ + tm).toInt = at_.toInt + tm.toInt := by rw [mi_add]; omega
  by_cases c : all < at_ + tm
  · rw [if_pos c, if_pos c, mq_27t, mq_Bt, mq_190, mq_Bs]
    obtain ⟨t, N3, e, hx⟩ := mq_r150d (v1 := all) (v4 := tm) (v5 := what) (a := at_) (mq_X_th (mq_S_bad hS))
    rw [e]
    exact mq_2_thr hx
  · rw [if_neg c, if_neg c, mq_27, mq_Bs]
    rw [Int32.lt_iff_toInt_lt] at c
    refine mq_2_B (E := mq_F) (mq_rowP hS a0 (by omega) (by omega) hv w0 w1) ?_ (fun _ _ _ q => q.elim)
    rintro r M2 t N2 ⟨rfl, hr, hv2, k1, k2⟩
    have hS2 : mq_S M2 N2 := by
      obtain ⟨⟨t1, t2, t3, t4⟩, ⟨u1, u2, u3, u4⟩, ⟨v1, v2, v3, v4, v5, v6⟩, ⟨g1, g2, g3, g4⟩, ⟨h1, h2, h3, h4, h5⟩⟩ := hS
      refine ⟨⟨?_, ?_, ?_, ?_⟩, ⟨?_, ?_, ?_, ?_⟩, ⟨?_, ?_, ?_, ?_, ?_, ?_⟩, ⟨?_, ?_, ?_, ?_⟩, ⟨?_, ?_, ?_, ?_, ?_⟩⟩
      all_goals first
        | (rw [(k1 1 1 rfl).1]; intro j hj; rw [(k1 2 j rfl).1, (k2 85 j rfl).1]; exact t4 j hj)
        | (rw [(k1 3 1 rfl).1]; intro j hj; rw [(k1 4 j rfl).1, (k2 86 j rfl).1]; exact u4 j hj)
        | (rw [(k1 1 1 rfl).1, (k2 84 2 rfl).1]; exact t1)
        | (rw [(k1 1 1 rfl).1]; exact t2)
        | (rw [(k1 1 1 rfl).1]; exact t3)
        | (rw [(k1 3 1 rfl).1, (k2 84 4 rfl).1]; exact u1)
        | (rw [(k1 3 1 rfl).1]; exact u2)
        | (rw [(k1 3 1 rfl).1]; exact u3)
        | (rw [(k1 1 2 rfl).1, (k2 84 5 rfl).1]; exact v1)
        | (rw [(k1 3 2 rfl).1, (k2 84 8 rfl).1]; exact v2)
        | (rw [(k1 3 3 rfl).1, (k2 84 9 rfl).1]; exact v3)
        | (rw [(k1 3 4 rfl).1, (k2 84 10 rfl).1]; exact v4)
        | (rw [(k1 3 5 rfl).1, (k2 84 11 rfl).1]; exact v5)
        | (rw [(k1 3 6 rfl).1, (k2 84 12 rfl).1]; exact v6)
        | (rw [(k1 1 6 rfl).1, (k2 84 15 rfl).1]; exact g1)
        | (rw [(k1 1 6 rfl).1]; exact g2)
        | (rw [(k1 1 6 rfl).1]; exact g3)
        | (rw [(k1 1 6 rfl).1, (k1 1 5 rfl).1, (k2 84 14 rfl).1]; exact g4)
        | (rw [(k2 84 7 rfl).1]; exact h1)
        | (rw [(k1 1 2 rfl).1]; exact h2)
        | (rw [(k1 1 2 rfl).1, (k1 1 3 rfl).1]; exact h3)
        | (rw [(k1 1 3 rfl).1, (k1 1 1 rfl).1]; exact h4)
        | (rw [(k1 1 3 rfl).1, (k1 1 1 rfl).1, (k2 84 6 rfl).1]; exact h5)
    refine mq_2_ret ⟨r, rfl, rfl, ⟨hS2, ?_, ?_, ?_, by omega, hv2⟩, by omega, by omega, ?_⟩
    · rw [(k1 1 4 rfl).1, (k2 84 13 rfl).1]; exact hf
    · exact mq_TC_of hC (k1 27 4 rfl).1 (k1 27 5 rfl).1 (fun i => (k1 30 i rfl).1) (fun i => (k1 29 i rfl).1)
    · exact mq_TR_of hR (fun i _ _ => ⟨(k2 87 i rfl).1, (k2 88 i rfl).1⟩)
    · unfold mq_rem
      rw [(k1 1 1 rfl).1, (k1 1 2 rfl).1, (k1 1 6 rfl).1]
