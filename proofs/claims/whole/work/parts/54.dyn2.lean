/-! BLOCKS: codes of its own, whole -/
theorem mq_hdrZ {N : mm_M} {n k : Int32} {kk : Nat} (hk : k.toInt = kk) (hk2 : kk ≤ 19) (hn : n.toInt ≤ kk) (hr : mq_RW N) : mq_1 (mf_206_L78 n k N) (fun _ N2 => (∀ j, j < 19 → kk ≤ j → N2.1 87 (600 + mc_rw j) = 0) ∧ (∀ p i, (p ≠ 87 ∨ (∀ j, j < 19 → kk ≤ j → i ≠ 600 + mc_rw j)) → N2.1 p i = N.1 p i)) := by
  unfold mf_206_L78
  refine mq_1_L (I := fun (a : Int32) N2 => ∃ x : Nat, a.toInt = x ∧ kk ≤ x ∧ x ≤ 19 ∧ mq_RW N2 ∧ (∀ j, j < x → kk ≤ j → N2.1 87 (600 + mc_rw j) = 0) ∧ (∀ p i, (p ≠ 87 ∨ (∀ j, j < 19 → kk ≤ j → i ≠ 600 + mc_rw j)) → N2.1 p i = N.1 p i)) (m := fun (a : Int32) _ => (19 - a.toInt).toNat) ?_ ⟨kk, hk, Nat.le_refl _, hk2, hr, fun j h1 h2 => by omega, fun _ _ _ => rfl⟩
  rintro a N2 ⟨x, ha, x1, x2, hr, hz, hkp⟩
  unfold mf_206_b78
  refine mq_1_ite (fun c => ?_) (fun c => ?_)
  · rw [Int32.lt_iff_toInt_lt] at c
    simp only [Int32.reduceToInt] at c
    have e1 : (a + 1).toInt = ((x + 1 : Nat) : Int) := by rw [mi_add]; simp only [Int32.reduceToInt]; omega
    have exn : a.toNatClampNeg = x := by rw [mq_cl]; omega
    obtain ⟨r1, r2⟩ := mc_rw1 (show x < 19 from by omega)
    have e6 : ((600 : Int32) + N2.1 89 x).toInt = ((600 + mc_rw x : Nat) : Int) := by rw [hr _ (by omega), mi_add, r1]; simp only [Int32.reduceToInt]; omega
    have e6n : ((600 : Int32) + N2.1 89 x).toNatClampNeg = 600 + mc_rw x := by rw [mq_cl]; omega
    rw [if_pos (mq_inr (by omega) (by omega)), exn, if_neg (show ¬ a < n from by rw [Int32.lt_iff_toInt_lt]; omega)]
    unfold mf_206_j113
    rw [if_pos (mq_inr (by omega) (by omega)), e6n]
    refine mq_1_ret (.inl ⟨_, rfl, ⟨x + 1, e1, by omega, by omega, ?_, ?_, ?_⟩, by omega⟩)
    · intro i hi; rw [mq_pn (by decide)]; exact hr i hi
    · intro j h1 h2
      by_cases q : j = x
      · rw [q, mq_ps]
      · rw [mq_pj (fun e => q (mc_rw2 (by omega) (by omega) (by omega)))]; exact hz j (by omega) h2
    · intro p i h
      rw [mq_p1]
      by_cases q : p = 87
      · rw [if_pos q]
        by_cases q2 : i = 600 + mc_rw x
        · rcases h with h | h
          · exact absurd q h
          · exact absurd q2 (h x (by omega) x1)
        · rw [if_neg q2]; exact hkp p i h
      · rw [if_neg q]; exact hkp p i h
  · rw [Int32.lt_iff_toInt_lt] at c
    simp only [Int32.reduceToInt] at c
    have : x = 19 := by omega
    subst this
    exact mq_1_ret (.inr ⟨_, rfl, hz, hkp⟩)
theorem mq_hdrL {M N : mm_M} {n : Int32} (hS : mq_S M N) (hf : M.1 1 4 = N.1 84 13) (hr : mq_RW N) (n0 : 4 ≤ n.toInt) (n1 : n.toInt ≤ 19) (hz : ∀ i, i < 19 → M.1 28 i = 0) : mq_2 mq_XE (mf_83_L92 n 0 M) (mf_206_L78 n 0 N) (fun _ M2 _ N2 => mq_S M2 N2 ∧ M2.1 1 4 = N2.1 84 13 ∧ mq_rem M2 ≤ mq_rem M ∧ (∀ s, s < 19 → M2.1 28 s = N2.1 87 (600 + s) ∧ 0 ≤ (M2.1 28 s).toInt ∧ (M2.1 28 s).toInt ≤ 7)) := by
  unfold mf_83_L92
  have hu : mf_206_L78 n 0 N = mm_L (fun s M => mf_206_b78 n s M) 0 N := rfl
  rw [hu]
  refine mq_2_L4 (I := fun (a : Int32) M2 (b : Int32) N2 => a = b ∧ ∃ x : Nat, a.toInt = x ∧ a.toInt ≤ n.toInt ∧ mq_S M2 N2 ∧ M2.1 1 4 = N2.1 84 13 ∧ mq_RW N2 ∧ mq_rem M2 ≤ mq_rem M ∧ (∀ j, j < x → M2.1 28 (mc_rw j) = N2.1 87 (600 + mc_rw j) ∧ 0 ≤ (M2.1 28 (mc_rw j)).toInt ∧ (M2.1 28 (mc_rw j)).toInt ≤ 7) ∧ (∀ j, j < 19 → x ≤ j → M2.1 28 (mc_rw j) = 0)) (J := fun M (b : Int32) N => mq_X M N ∧ mq_RW N ∧ 0 ≤ b.toInt) (m := fun (a : Int32) _ => (19 - a.toInt).toNat) ?_ ?_ ⟨rfl, 0, rfl, by simp only [Int32.reduceToInt]; omega, hS, hf, hr, Int.le_refl _, fun j h => by omega, fun j h _ => hz _ (mc_rw1 h).2⟩
  · rintro a M2 b N2 ⟨rfl, x, ha, han, hS, hf, hr, hrm, he, hz⟩
    unfold mf_83_b92 mf_206_b78
    have exn : a.toNatClampNeg = x := by rw [mq_cl]; omega
    by_cases c : a < n
    · rw [if_pos c]
      have c2 := c
      rw [Int32.lt_iff_toInt_lt] at c2
      have c19 : a < 19 := by rw [Int32.lt_iff_toInt_lt]; simp only [Int32.reduceToInt]; omega
      have hin : mm_in a 19 = true := mq_inr (by omega) (by omega)
      have e1 : (a + 1).toInt = ((x + 1 : Nat) : Int) := by rw [mi_add]; simp only [Int32.reduceToInt]; omega
      obtain ⟨r1, r2⟩ := mc_rw1 (show x < 19 from by omega)
      have e6 : ((600 : Int32) + N2.1 89 x).toInt = ((600 + mc_rw x : Nat) : Int) := by rw [hr _ (by omega), mi_add, r1]; simp only [Int32.reduceToInt]; omega
      have e6n : ((600 : Int32) + N2.1 89 x).toNatClampNeg = 600 + mc_rw x := by rw [mq_cl]; omega
      have erw : (mm_row x).toNatClampNeg = mc_rw x := by rw [mq_cl]; omega
      rw [if_pos c19, if_pos hin, if_pos c19, if_pos hin, if_pos c, exn]
      refine mq_2_B (mq_2_K (mq_bits hS hf (n := 3) (by decide) (by decide)) mk_46 mk_198) ?_ ?_
      · rintro y M3 b N3 ⟨⟨rfl, y1, hS3, hf3, hr3⟩, k3, k4⟩
        have y2 : mq_n y < 8 := y1
        have y3 : y.toInt32.toInt = mq_n y := mi_64to32 (by omega)
        unfold mf_206_j113
        simp only [Int32.reduceToInt] at hr3
        rw [if_pos (mq_inr (by omega) (by omega)), if_pos (mq_inr (by omega) (by omega)), e6n, erw]
        have kk := mq_S_kp (M2 := mm_pi M3 28 (mc_rw x) y.toInt32) (N2 := mm_pi N3 87 (600 + mc_rw x) y.toInt32) (w := [(28, none)]) (w2 := [(87, none)]) hS3 (mq_kp_pi mq_kp_refl rfl) (mq_kp_pi mq_kp_refl rfl) rfl rfl
        refine mq_2_ret (.inl ⟨_, _, rfl, rfl, ⟨rfl, x + 1, e1, by omega, kk.1, hf3, ?_, ?_, ?_, ?_⟩, by omega⟩)
        · intro i hi
          rw [mq_pn (by decide)]
          exact mq_RW_kp hr k4 rfl i hi
        · rw [kk.2.1]; omega
        · intro j hj
          by_cases q : j = x
          · rw [q, mq_ps, mq_ps]; exact ⟨rfl, by omega, by omega⟩
          · rw [mq_pj (fun e => q (mc_rw2 (by omega) (by omega) e)), mq_pj (fun e => q (mc_rw2 (by omega) (by omega) (by omega))), (k3 28 _ rfl).1, (k4 87 _ rfl).1]
            exact he j (by omega)
        · intro j h1 h2
          rw [mq_pj (fun e => by have := mc_rw2 h1 (by omega) e; omega), (k3 28 _ rfl).1]
          exact hz j h1 (by omega)
      · rintro M3 b N3 ⟨hx, k3, k4⟩
        unfold mf_206_j113
        rw [if_pos (mq_inr (by omega) (by omega))]
        refine mq_1_ret (.inl ⟨_, rfl, mq_X_ob hx (mq_ob_pi mq_ob_refl rfl), ?_, by omega⟩)
        intro i hi
        rw [mq_pn (by decide)]
        exact mq_RW_kp hr k4 rfl i hi
    · rw [if_neg c]
      have c2 := c
      rw [Int32.lt_iff_toInt_lt] at c2
      have hxn : n.toInt = x := by omega
      -- the reference goes on with zeros
      have rest := mq_hdrZ (N := N2) (n := n) (k := a) (kk := x) ha (by omega) (by omega) hr
      have hu2 : mf_206_L78 n a N2 = mm_B (mf_206_b78 n a N2) (mm_nx (mm_L (fun s M => mf_206_b78 n s M))) := by
        unfold mf_206_L78; exact mm_L_eq _ _ _
      rw [hu2] at rest
      obtain ⟨_, N9, e9, hz9, hk9⟩ := rest
      have fin : (mq_S M2 N9 ∧ M2.1 1 4 = N9.1 84 13 ∧ mq_rem M2 ≤ mq_rem M ∧ (∀ s, s < 19 → M2.1 28 s = N9.1 87 (600 + s) ∧ 0 ≤ (M2.1 28 s).toInt ∧ (M2.1 28 s).toInt ≤ 7)) := by
        have kp9 : mq_kp [(87, none), (200, none)] N2 (N9.1, N2.2.1, N2.2.2) := by
          intro p i hp
          refine ⟨hk9 p i (.inl ?_), rfl⟩
          intro q
          subst q
          cases hp
        have kk := mq_S_kp (M2 := M2) (N2 := (N9.1, N2.2.1, N2.2.2)) (w := []) hS mq_kp_refl kp9 rfl rfl
        refine ⟨kk.1, ?_, hrm, ?_⟩
        · rw [hf]; exact kk.2.2.2.symm
        · intro s hs
          obtain ⟨j, j1, rfl⟩ := mc_rw3 hs
          by_cases q : j < x
          · rw [hk9 87 _ (.inr (fun j2 h1 h2 e => by have := mc_rw2 j1 h1 (by omega); omega))]
            exact he j q
          · rw [hz9 j j1 (by omega), hz j j1 (by omega)]
            exact ⟨rfl, by decide, by decide⟩
      have st := e9
      unfold mf_206_b78 at st
      -- step by step
      match hb : mf_206_b78 n a N2, e9 with
      | some (.inl (.inl b2), N3), e9 =>
        have hb' := hb
        unfold mf_206_b78 at hb'
        rw [hb']
        exact mq_2_ret (.inr (.inr (.inl ⟨_, _, rfl, rfl, ⟨_, N9, e9, fin⟩⟩)))
      | some (.inl (.inr v), N3), e9 =>
        have hb' := hb
        unfold mf_206_b78 at hb'
        rw [hb']
        cases e9
        exact mq_2_ret (.inr (.inl ⟨_, _, rfl, rfl, fin⟩))
  · rintro M2 b N2 ⟨hx, hr, hb⟩
    exact mq_1_mono (md_206_L78 (mq_X_Z hx) mq_ob_refl hr hb) (fun _ _ g => mq_X_ob hx g)
