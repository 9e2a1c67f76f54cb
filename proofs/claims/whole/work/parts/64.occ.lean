/-! FORM 9: which bytes occur, in step -/
/-- the row of bytes, alike -/
def mq_fr (M N : mm_M) : Prop := M.1 42 9 = N.1 84 20 ∧ 0 ≤ (M.1 42 9).toInt ∧ (M.1 42 9).toInt ≤ 256 ∧ ∀ j : Nat, (j : Int) < (M.1 42 9).toInt → M.1 46 j = N.1 94 j ∧ 0 ≤ (M.1 46 j).toInt ∧ (M.1 46 j).toInt < 256
theorem mq_fr_kp {M N M2 N2 : mm_M} {w w2 : List (Nat × Option Nat)} (h : mq_fr M N) (k1 : mq_kp w M M2) (k2 : mq_kp w2 N N2) (h1 : mq_ws w 42 9 = false) (h2 : w.all (fun e => decide (e.1 < 46) || decide (46 < e.1)) = true) (h3 : mq_ws w2 84 20 = false) (h4 : w2.all (fun e => decide (e.1 < 94) || decide (94 < e.1)) = true) : mq_fr M2 N2 := by
  unfold mq_fr
  rw [(k1 42 9 h1).1, (k2 84 20 h3).1]
  refine ⟨h.1, h.2.1, h.2.2.1, fun j hj => ?_⟩
  rw [(k1 46 j (mq_ws_out h2 (by decide) (by decide))).1, (k2 94 j (mq_ws_out h4 (by decide) (by decide))).1]
  exact h.2.2.2 j hj
/-- sixteen bits of the row -/
theorem mq_occ16 {M N : mm_M} {g wh z1 z2 : Int32} (hS : mq_S M N) (hfr : mq_fr M N) (g0 : 0 ≤ g.toInt) (g1 : g.toInt < 16) (hb : (M.1 42 9).toInt ≤ 16 * g.toInt) : mq_2 mq_F (mf_139_L53 z1 g wh 0 M) (mf_225_L55 z2 g wh 0 N) (fun _ M2 _ N2 => mq_fr M2 N2 ∧ (M2.1 42 9).toInt ≤ 16 * g.toInt + 16 ∧ mq_kp [(42, some 9), (46, none)] M M2 ∧ mq_kp [(84, some 20), (94, none)] N N2) := by
  unfold mf_139_L53 mf_225_L55
  refine mq_2_Lf (I := fun (a : Int32) M2 (b : Int32) N2 => a = b ∧ 0 ≤ a.toInt ∧ a.toInt ≤ 16 ∧ mq_fr M2 N2 ∧ (M2.1 42 9).toInt ≤ 16 * g.toInt + a.toInt ∧ mq_kp [(42, some 9), (46, none)] M M2 ∧ mq_kp [(84, some 20), (94, none)] N N2) (m := fun (a : Int32) _ => (16 - a.toInt).toNat) ?_ ⟨rfl, by decide, by decide, hfr, by simp only [Int32.reduceToInt]; omega, mq_kp_refl, mq_kp_refl⟩
  rintro k M2 b N2 ⟨rfl, k0, k1, hfr, hb, kM, kN⟩
  unfold mf_139_b53 mf_225_b55
  by_cases c : k < 16
  · rw [if_pos c, if_pos c]
    rw [Int32.lt_iff_toInt_lt] at c
    simp only [Int32.reduceToInt] at c
    have e1 : (k + 1).toInt = k.toInt + 1 := by rw [mi_add]; simp only [Int32.reduceToInt]; omega
    rcases mi_and1 (mm_shr wh (15 - k)) with d | d
    · rw [if_pos d, if_neg (show ¬ mm_shr wh (15 - k) &&& 1 = 1 from by rw [d]; decide)]
      exact mq_2_ret (.inl ⟨_, _, rfl, rfl, ⟨rfl, by omega, by omega, hfr, by omega, kM, kN⟩, by omega⟩)
    · rw [if_neg (show ¬ mm_shr wh (15 - k) &&& 1 = 0 from by rw [d]; decide), if_pos d]
      obtain ⟨f1, f2, f3, f4⟩ := hfr
      rw [← f1, if_pos (mq_inr f2 (by omega)), if_pos (mq_inr f2 (by omega))]
      have e2 : (M2.1 42 9 + 1).toInt = (M2.1 42 9).toInt + 1 := by rw [mi_add]; simp only [Int32.reduceToInt]; omega
      have e3 : (16 * g + k).toInt = 16 * g.toInt + k.toInt := by rw [mi_add, mi_mul]; simp only [Int32.reduceToInt]; omega
      refine mq_2_ret (.inl ⟨_, _, rfl, rfl, ⟨rfl, by omega, by omega, ⟨rfl, ?_, ?_, ?_⟩, ?_, mq_kp_pi (mq_kp_pi kM rfl) rfl, mq_kp_pi (mq_kp_pi kN rfl) rfl⟩, by omega⟩)
      · show 0 ≤ (M2.1 42 9 + 1).toInt
        omega
      · show (M2.1 42 9 + 1).toInt ≤ 256
        omega
      · intro j hj
        have hj : (j : Int) < (M2.1 42 9 + 1).toInt := hj
        show (if j = (M2.1 42 9).toNatClampNeg then 16 * g + k else M2.1 46 j) = (if j = (M2.1 42 9).toNatClampNeg then 16 * g + k else N2.1 94 j) ∧ 0 ≤ (if j = (M2.1 42 9).toNatClampNeg then 16 * g + k else M2.1 46 j).toInt ∧ (if j = (M2.1 42 9).toNatClampNeg then 16 * g + k else M2.1 46 j).toInt < 256
        by_cases q : j = (M2.1 42 9).toNatClampNeg
        · rw [if_pos q, if_pos q]; exact ⟨rfl, by omega, by omega⟩
        · rw [if_neg q, if_neg q]
          rw [mq_cl] at q
          exact f4 j (by omega)
      · show (M2.1 42 9 + 1).toInt ≤ _
        omega
  · rw [if_neg c, if_neg c]
    exact mq_2_ret (.inr ⟨_, _, rfl, rfl, hfr, by omega, kM, kN⟩)
theorem md_225_L55 {A N : mm_M} {z g wh k : Int32} (ha : mq_ob A N) (g0 : 0 ≤ g.toInt) (g1 : g.toInt < 16) (k0 : 0 ≤ k.toInt) (k1 : k.toInt ≤ 16) (b0 : 0 ≤ (N.1 84 20).toInt) (hb : (N.1 84 20).toInt ≤ 16 * g.toInt + k.toInt) : mq_D A (mf_225_L55 z g wh k N) := by
  unfold mf_225_L55
  refine mq_1_L (I := fun (a : Int32) N2 => 0 ≤ a.toInt ∧ a.toInt ≤ 16 ∧ mq_ob A N2 ∧ 0 ≤ (N2.1 84 20).toInt ∧ (N2.1 84 20).toInt ≤ 16 * g.toInt + a.toInt) (m := fun (a : Int32) _ => (16 - a.toInt).toNat) ?_ ⟨k0, k1, ha, b0, hb⟩
  rintro a N2 ⟨a0, a1, ha, b0, hb⟩
  unfold mf_225_b55
  refine mq_1_ite (fun c => ?_) (fun _ => mq_1_ret (.inr ⟨_, rfl, ha⟩))
  rw [Int32.lt_iff_toInt_lt] at c
  simp only [Int32.reduceToInt] at c
  have e1 : (a + 1).toInt = a.toInt + 1 := by rw [mi_add]; simp only [Int32.reduceToInt]; omega
  refine mq_1_ite (fun _ => ?_) (fun _ => mq_1_ret (.inl ⟨_, rfl, ⟨by omega, by omega, ha, b0, by omega⟩, by omega⟩))
  have e2 : (N2.1 84 20 + 1).toInt = (N2.1 84 20).toInt + 1 := by rw [mi_add]; simp only [Int32.reduceToInt]; omega
  rw [if_pos (mq_inr b0 (by omega))]
  refine mq_1_ret (.inl ⟨_, rfl, ⟨by omega, by omega, mq_ob_pi (mq_ob_pi ha rfl) rfl, ?_, ?_⟩, by omega⟩)
  · show 0 ≤ (N2.1 84 20 + 1).toInt
    omega
  · show (N2.1 84 20 + 1).toInt ≤ _
    omega
theorem mq_occ {M N : mm_M} (hS : mq_S M N) (hf : M.1 1 4 = N.1 84 13) : mq_2 mq_XE (mf_139 M) (mf_225 N) (fun _ M2 _ N2 => mq_S M2 N2 ∧ M2.1 1 4 = N2.1 84 13 ∧ mq_rem M2 ≤ mq_rem M ∧ mq_fr M2 N2 ∧ 1 ≤ (M2.1 42 9).toInt) := by
  unfold mf_139 mf_225
  refine mq_2_B (mq_2_K (mq_bits hS hf (n := 16) (by decide) (by decide)) mk_46 mk_198) ?_ ?_
  · rintro v M2 b N2 ⟨⟨rfl, v1, hS2, hf2, hr2⟩, k1, k2⟩
    simp only [Int32.reduceToInt] at hr2
    have hS2' : mq_S (mm_pi M2 42 9 0) (mm_pi N2 84 20 0) := (mq_S_kp (w := [(42, none)]) (w2 := [(84, some 20)]) hS2 (mq_kp_pi mq_kp_refl rfl) (mq_kp_pi mq_kp_refl rfl) rfl rfl).1
    refine mq_2_B (E := mq_XE) (P := fun _ M3 _ N3 => mq_S M3 N3 ∧ M3.1 1 4 = N3.1 84 13 ∧ mq_rem M3 ≤ mq_rem M ∧ mq_fr M3 N3) ?_ ?_ ?_
    · unfold mf_139_L18 mf_225_L15
      refine mq_2_L (I := fun (a : Int32) M3 (b : Int32) N3 => a = b ∧ 0 ≤ a.toInt ∧ a.toInt ≤ 16 ∧ mq_S M3 N3 ∧ M3.1 1 4 = N3.1 84 13 ∧ mq_rem M3 ≤ mq_rem M ∧ mq_fr M3 N3 ∧ (M3.1 42 9).toInt ≤ 16 * a.toInt) (J := fun M (_ : Int32) N => mq_X M N) (m := fun (a : Int32) _ => (16 - a.toInt).toNat) ?_ ?_ ⟨rfl, by decide, by decide, hS2', hf2, ?_, ⟨rfl, (by decide : 0 ≤ (0 : Int32).toInt), (by decide : (0 : Int32).toInt ≤ 256), fun j hj => ?_⟩, (by decide : (0 : Int32).toInt ≤ 16 * (0 : Int32).toInt)⟩
      · rintro g M3 b N3 ⟨rfl, g0, g1, hS3, hf3, hr3, hfr, hb⟩
        unfold mf_139_b18 mf_225_b15
        by_cases c : g < 16
        · rw [if_pos c, if_pos c, if_pos hS3.2.2.2.2.1]
          rw [Int32.lt_iff_toInt_lt] at c
          simp only [Int32.reduceToInt] at c
          have e1 : (g + 1).toInt = g.toInt + 1 := by rw [mi_add]; simp only [Int32.reduceToInt]; omega
          have fin : ∀ {M4 N4 : mm_M} {wh z1 z2 : Int32}, mq_S M4 N4 → M4.1 1 4 = N4.1 84 13 → mq_rem M4 ≤ mq_rem M → mq_fr M4 N4 → (M4.1 42 9).toInt ≤ 16 * g.toInt → mq_2 (fun M t N => (∃ b, t = .inl b ∧ mq_X M N) ∨ (∃ v, t = .inr v ∧ mq_X M N)) (mm_B (mf_139_L53 z1 g wh 0 M4) (fun _ M1 => (some (.inl (.inl (g + 1)), M1) : mm_O (Int32 ⊕ Unit)))) (mm_B (mf_225_L55 z2 g wh 0 N4) (fun _ M3 => (some (.inl (.inl (g + 1)), M3) : mm_O (Int32 ⊕ Unit)))) (fun r M5 t N5 => (∃ a2 b2, r = .inl a2 ∧ t = .inl b2 ∧ (a2 = b2 ∧ 0 ≤ a2.toInt ∧ a2.toInt ≤ 16 ∧ mq_S M5 N5 ∧ M5.1 1 4 = N5.1 84 13 ∧ mq_rem M5 ≤ mq_rem M ∧ mq_fr M5 N5 ∧ (M5.1 42 9).toInt ≤ 16 * a2.toInt) ∧ (16 - a2.toInt).toNat < (16 - g.toInt).toNat) ∨ (∃ u v, r = .inr u ∧ t = .inr v ∧ (mq_S M5 N5 ∧ M5.1 1 4 = N5.1 84 13 ∧ mq_rem M5 ≤ mq_rem M ∧ mq_fr M5 N5))) := by
            intro M4 N4 wh z1 z2 q1 q2 q3 q4 q5
            refine mq_2_B (E := mq_F) (mq_occ16 q1 q4 g0 c q5) ?_ (fun _ _ _ q => q.elim)
            rintro _ M5 _ N5 ⟨r1, r2, kM, kN⟩
            obtain ⟨r3, r4, r5, r6⟩ := mq_S_kp q1 kM kN rfl rfl
            exact mq_2_ret (.inl ⟨_, _, rfl, rfl, ⟨rfl, by omega, by omega, r3, by rw [r5, r6]; exact q2, by omega, r1, by omega⟩, by omega⟩)
          rcases mi_and1 (mm_shr v.toInt32 (15 - g)) with d | d
          · rw [if_pos d, if_neg (show ¬ mm_shr v.toInt32 (15 - g) &&& 1 = 1 from by rw [d]; decide)]
            exact fin hS3 hf3 hr3 hfr hb
          · rw [if_neg (show ¬ mm_shr v.toInt32 (15 - g) &&& 1 = 0 from by rw [d]; decide), if_pos d]
            refine mq_2_B (mq_2_K (mq_bits hS3 hf3 (n := 16) (by decide) (by decide)) mk_46 mk_198) ?_ ?_
            · rintro x M4 b N4 ⟨⟨rfl, x1, hS4, hf4, hr4⟩, k3, k4⟩
              simp only [Int32.reduceToInt] at hr4
              exact fin hS4 hf4 (by omega) (mq_fr_kp hfr k3 k4 rfl rfl rfl rfl) (by rw [(k3 42 9 rfl).1]; exact hb)
            · rintro M4 b N4 ⟨hx, k3, k4⟩
              have e20 : N4.1 84 20 = M3.1 42 9 := by rw [(k4 84 20 rfl).1]; exact hfr.1.symm
              refine mq_1_B (P := fun _ N => mq_X M4 N) ?_ (fun _ _ hx => mq_1_ret (.inl ⟨_, rfl, hx⟩))
              exact mq_xd hx (fun z => md_225_L55 mq_ob_refl g0 c (by decide) (by decide) (by rw [e20]; exact hfr.2.1) (by rw [e20]; simp only [Int32.reduceToInt]; omega))
        · rw [if_neg c, if_neg c]
          exact mq_2_ret (.inr ⟨_, _, rfl, rfl, hS3, hf3, hr3, hfr⟩)
      · intro M3 b N3 hx
        exact mq_xd hx (fun z => md_225_L15 z mq_ob_refl)
      · show mq_rem M2 ≤ mq_rem M
        omega
      · have hj : (j : Int) < (0 : Int32).toInt := hj
        simp only [Int32.reduceToInt] at hj
        omega
    · rintro _ M3 _ N3 ⟨hS3, hf3, hr3, hfr⟩
      unfold mf_139_j110 mf_225_j113 mf_139_j122
      rw [if_pos hS3.2.2.2.2.1, ← hfr.1]
      by_cases c : M3.1 42 9 = 0
      · rw [if_pos c, if_pos c, mq_27t, mq_Bt, mq_190, mq_Bs]
        exact mq_2_thr (mq_X_th (mq_S_bad hS3))
      · rw [if_neg c, if_neg c, mq_27, mq_Bs]
        have : (M3.1 42 9).toInt ≠ 0 := fun q => c (Int32.toInt_inj.mp q)
        have := hfr.2.1
        exact mq_2_ret ⟨hS3, hf3, hr3, hfr, by omega⟩
    · intro M3 b N3 hx
      exact mq_xd hx (fun z => md_225_j113 z mq_ob_refl)
  · rintro M2 b N2 ⟨hx, _, _⟩
    exact mq_1_B (mq_xd (mq_X_pi hx rfl) (fun z => md_225_L15 z mq_ob_refl)) (fun _ _ hx => mq_xd hx (fun z => md_225_j113 z mq_ob_refl))
