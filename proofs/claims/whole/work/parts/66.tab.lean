/-! FORM 9: the tables, in step -/
/-- a length is changed by steps -/
theorem mq_tabL {M N : mm_M} {p cap : Nat} {l z1 z2 z3 z4 : Int32} (hS : mq_S M N) (hf : M.1 1 4 = N.1 84 13) (l0 : 1 ≤ l.toInt) (l1 : l.toInt ≤ 20) : mq_2 mq_XE (mf_142_L44 p cap z1 (l, (0 : Int32)) M) (mf_227_L45 z2 z3 z4 l N) (fun r M2 t N2 => r = t ∧ 1 ≤ r.toInt ∧ r.toInt ≤ 20 ∧ mq_S M2 N2 ∧ M2.1 1 4 = N2.1 84 13 ∧ mq_rem M2 ≤ mq_rem M) := by
  unfold mf_142_L44 mf_227_L45
  refine mq_2_L (I := fun (a : Int32 × Int32) M2 (b : Int32) N2 => a.1 = b ∧ 1 ≤ a.1.toInt ∧ a.1.toInt ≤ 20 ∧ 0 ≤ a.2.toInt ∧ a.2.toInt + mq_rem M2 ≤ 80007 ∧ mq_S M2 N2 ∧ M2.1 1 4 = N2.1 84 13 ∧ mq_rem M2 ≤ mq_rem M) (J := fun M (_ : Int32) N => mq_X M N) (m := fun _ M => (mq_rem M).toNat) ?_ ?_ ⟨rfl, l0, l1, (by decide : 0 ≤ (0 : Int32).toInt), ?_, hS, hf, Int.le_refl _⟩
  · rintro ⟨x, k⟩ M2 b N2 ⟨hb, x0, x1, k0, k1, hS, hf, hr⟩
    dsimp only at hb x0 x1 k0 k1
    subst hb
    have lim := mq_S_lim hS
    unfold mf_142_b44 mf_227_b45
    dsimp only
    have ek : (k + 1).toInt = k.toInt + 1 := by rw [mi_add]; simp only [Int32.reduceToInt]; omega
    rw [if_pos (show k < 1000000 from by rw [Int32.lt_iff_toInt_lt]; simp only [Int32.reduceToInt]; omega), if_pos hS.2.2.2.2.1]
    refine mq_2_B (mq_bit hS hf) ?_ ?_
    · rintro v M3 b N3 ⟨rfl, hv, hS3, hf3, hr3⟩
      rcases hv with rfl | rfl
      · rw [if_neg (show ¬ (0 : Int32) = 1 from by decide), if_neg (show ¬ (0 : Int32) = 1 from by decide)]
        exact mq_2_ret (.inr ⟨_, _, rfl, rfl, rfl, x0, x1, hS3, hf3, by omega⟩)
      · rw [if_pos rfl, if_pos rfl]
        refine mq_2_B (mq_bit hS3 hf3) ?_ ?_
        · rintro w M4 b N4 ⟨rfl, hw, hS4, hf4, hr4⟩
          have lim4 := mq_S_lim hS4
          have fin : ∀ y : Int32, mq_2 (fun M t N => (∃ b, t = .inl b ∧ mq_X M N) ∨ (∃ v, t = .inr v ∧ mq_X M N)) (mf_142_j78 p cap z1 k x y M4) (mf_227_j73 z2 z3 z4 x y N4) (fun r M5 t N5 => (∃ a2 b2, r = .inl a2 ∧ t = .inl b2 ∧ (a2.1 = b2 ∧ 1 ≤ a2.1.toInt ∧ a2.1.toInt ≤ 20 ∧ 0 ≤ a2.2.toInt ∧ a2.2.toInt + mq_rem M5 ≤ 80007 ∧ mq_S M5 N5 ∧ M5.1 1 4 = N5.1 84 13 ∧ mq_rem M5 ≤ mq_rem M) ∧ (mq_rem M5).toNat < (mq_rem M2).toNat) ∨ (∃ u v, r = .inr u ∧ t = .inr v ∧ (u = v ∧ 1 ≤ u.toInt ∧ u.toInt ≤ 20 ∧ mq_S M5 N5 ∧ M5.1 1 4 = N5.1 84 13 ∧ mq_rem M5 ≤ mq_rem M))) := by
            intro y
            unfold mf_142_j78 mf_227_j73 mf_142_j96 mf_227_j93
            rw [if_pos hS4.2.2.2.2.1]
            by_cases c : x + y < 1
            · rw [if_pos c, if_pos c, mq_27t, mq_Bt, mq_190, mq_Bs]
              exact mq_2_thr (.inl ⟨_, rfl, mq_X_th (mq_S_bad hS4)⟩)
            · rw [if_neg c, if_neg c]
              by_cases d : 20 < x + y
              · rw [if_pos d, if_pos d, mq_27t, mq_Bt, mq_190, mq_Bs]
                exact mq_2_thr (.inl ⟨_, rfl, mq_X_th (mq_S_bad hS4)⟩)
              · rw [if_neg d, if_neg d, mq_27, mq_Bs]
                rw [Int32.lt_iff_toInt_lt] at c d
                simp only [Int32.reduceToInt] at c d
                exact mq_2_ret (.inl ⟨_, _, rfl, rfl, ⟨rfl, by dsimp only; omega, by dsimp only; omega, by dsimp only; omega, by dsimp only; omega, hS4, hf4, by omega⟩, by omega⟩)
          rcases hw with rfl | rfl
          · rw [if_pos rfl, if_pos rfl]; exact fin 1
          · rw [if_neg (show ¬ (1 : Int32) = 0 from by decide), if_neg (show ¬ (1 : Int32) = 0 from by decide)]; exact fin (-1)
        · intro M4 b N4 hx
          have dd : ∀ y : Int32, mq_1 (mf_227_j73 z2 z3 z4 x y N4) (fun t N => (∃ b, t = .inl b ∧ mq_X M4 N) ∨ (∃ v, t = .inr v ∧ mq_X M4 N)) := by
            intro y
            unfold mf_227_j73
            rw [if_neg (by rw [hx.2.2.2.1]; decide)]
            exact mq_1_ret (.inl ⟨_, rfl, hx⟩)
          exact mq_1_ite (fun _ => dd _) (fun _ => dd _)
    · intro M3 b N3 hx
      refine mq_1_ite (fun _ => ?_) (fun _ => mq_1_ret (.inr ⟨_, rfl, hx⟩))
      refine mq_1_B (mq_xd hx (fun z => md_197 z)) (fun r N4 hx => ?_)
      have dd : ∀ y : Int32, mq_1 (mf_227_j73 z2 z3 z4 x y N4) (fun t N => (∃ b, t = .inl b ∧ mq_X M3 N) ∨ (∃ v, t = .inr v ∧ mq_X M3 N)) := by
        intro y
        unfold mf_227_j73
        rw [if_neg (by rw [hx.2.2.2.1]; decide)]
        exact mq_1_ret (.inl ⟨_, rfl, hx⟩)
      exact mq_1_ite (fun _ => dd _) (fun _ => dd _)
  · intro M2 b N2 hx
    exact mq_xd hx (fun z => md_227_L45 z mq_ob_refl)
  · have := mq_S_lim hS
    show (0 : Int32).toInt + mq_rem M ≤ 80007
    simp only [Int32.reduceToInt]
    omega
theorem md_227_j158 {A N : mm_M} {tt nn : Int32} {t n : Nat} (g : mq_ob A N) (ht : t ≤ 6) (hn : n ≤ 300) (htt : tt.toInt = t) (hnn : nn.toInt = n) : mq_D A (mf_227_j158 tt nn N) := by
  unfold mf_227_j158
  exact mq_d_B (md_199 g ht hn htt hnn) (fun _ _ g => mq_d_ret g)
theorem md_227_j120 {A N : mm_M} {tt nn : Int32} {t : Nat} (hz : mq_Z A) (g : mq_ob A N) (ht : t ≤ 6) (htt : tt.toInt = t) : mq_D A (mf_227_j120 tt nn N) := by
  unfold mf_227_j120 mf_227_j144
  exact mq_d_w hz g (mq_d_w hz g (md_227_j158 (n := 0) g ht (by omega) htt rfl))
theorem mq_t120d {M N : mm_M} {tt nn l : Int32} {t : Nat} (hx : mq_X M N) (ht : t ≤ 6) (htt : tt.toInt = t) : mq_1 (mm_B (mf_227_L32 tt nn (l, (0 : Int32)) N) (fun _ M2 => mf_227_j120 tt nn M2)) (fun _ N2 => mq_X M N2) := mq_1_B (mq_xd hx (fun z => md_227_L32 z mq_ob_refl)) (fun _ _ hx => mq_xd hx (fun z => md_227_j120 z mq_ob_refl ht htt))
/-- one table is read -/
theorem mq_table {M N : mm_M} {t n : Nat} {tt nn oc : Int32} (hS : mq_S M N) (hf : M.1 1 4 = N.1 84 13) (ht : t < 6) (htt : tt.toInt = t) (hoc : M.1 42 9 = oc) (hnn : nn = oc + 2) (hn : nn.toInt = n) (hn2 : n ≤ 258) : mq_2 mq_XE (mf_142 (50 + 5 * t) 258 M) (mf_227 tt nn N) (fun _ M2 _ N2 => mq_S M2 N2 ∧ M2.1 1 4 = N2.1 84 13 ∧ mq_rem M2 ≤ mq_rem M ∧ (∃ f, mq_TC (50 + 5 * t) f n M2 ∧ mq_TR t f n N2 ∧ ∀ s, s < n → f s ≤ 20) ∧ (∀ i, (i < 300 * t ∨ 300 * t + 300 ≤ i) → N2.1 87 i = N.1 87 i ∧ N2.1 88 i = N.1 88 i)) := by
  unfold mf_142 mf_227
  refine mq_2_B (mq_2_K (mq_bits hS hf (n := 5) (by decide) (by decide)) mk_46 mk_198) ?_ ?_
  · rintro v M2 b N2 ⟨⟨rfl, v1, hS2, hf2, hr2⟩, k1, k2⟩
    simp only [Int32.reduceToInt] at hr2
    have v2 : mq_n v < 32 := v1
    have v3 : v.toInt32.toInt = mq_n v := mi_64to32 (by omega)
    generalize v.toInt32 = l at v3
    have hoc2 : M2.1 42 9 = oc := by rw [(k1 42 9 rfl).1]; exact hoc
    rw [if_pos hS2.2.2.2.2.1]
    have bad : mq_2 mq_XE (mf_142_j26 (50 + 5 * t) 258 l 1 M2) (mf_227_j25 tt nn l N2) (fun _ M2 _ N2 => mq_S M2 N2 ∧ M2.1 1 4 = N2.1 84 13 ∧ mq_rem M2 ≤ mq_rem M ∧ (∃ f, mq_TC (50 + 5 * t) f n M2 ∧ mq_TR t f n N2 ∧ ∀ s, s < n → f s ≤ 20) ∧ (∀ i, (i < 300 * t ∨ 300 * t + 300 ≤ i) → N2.1 87 i = N.1 87 i ∧ N2.1 88 i = N.1 88 i)) := by
      unfold mf_142_j26 mf_227_j25
      rw [mq_27t, mq_Bt, mq_190, mq_Bs]
      obtain ⟨x, N3, e, hx⟩ := mq_t120d (tt := tt) (nn := nn) (l := l) (mq_X_th (mq_S_bad hS2)) (show t ≤ 6 by omega) htt
      rw [e]
      exact mq_2_thr hx
    by_cases c : l < 1
    · rw [if_pos c, if_pos c]; exact bad
    · rw [if_neg c, if_neg c]
      by_cases d : 20 < l
      · rw [if_pos d, if_pos d]; exact bad
      · rw [if_neg d, if_neg d]
        rw [Int32.lt_iff_toInt_lt] at c d
        simp only [Int32.reduceToInt] at c d
        unfold mf_142_j26
        rw [mq_27, mq_Bs]
        have e300 : ((300 : Int32) * tt).toInt = ((300 * t : Nat) : Int) := by rw [mi_mul, htt]; simp only [Int32.reduceToInt]; omega
        refine mq_2_B (E := mq_XE) (P := fun _ M3 _ N3 => mq_S M3 N3 ∧ M3.1 1 4 = N3.1 84 13 ∧ mq_rem M3 ≤ mq_rem M ∧ M3.1 42 9 = oc ∧ (∀ s, s < n → M3.1 (50 + 5 * t + 1) s = N3.1 87 (300 * t + s) ∧ 1 ≤ (M3.1 (50 + 5 * t + 1) s).toInt ∧ (M3.1 (50 + 5 * t + 1) s).toInt ≤ 20) ∧ (∀ i, (i < 300 * t ∨ 300 * t + 300 ≤ i) → N3.1 87 i = N.1 87 i) ∧ (∀ i, N3.1 88 i = N.1 88 i)) ?_ ?_ ?_
        · unfold mf_142_L31 mf_227_L32
          refine mq_2_L (I := fun (a : Int32 × Int32) M3 (b : Int32 × Int32) N3 => a = b ∧ 1 ≤ a.1.toInt ∧ a.1.toInt ≤ 20 ∧ 0 ≤ a.2.toInt ∧ a.2.toInt ≤ n ∧ mq_S M3 N3 ∧ M3.1 1 4 = N3.1 84 13 ∧ mq_rem M3 ≤ mq_rem M ∧ M3.1 42 9 = oc ∧ (∀ s : Nat, (s : Int) < a.2.toInt → M3.1 (50 + 5 * t + 1) s = N3.1 87 (300 * t + s) ∧ 1 ≤ (M3.1 (50 + 5 * t + 1) s).toInt ∧ (M3.1 (50 + 5 * t + 1) s).toInt ≤ 20) ∧ (∀ i, (i < 300 * t ∨ 300 * t + 300 ≤ i) → N3.1 87 i = N.1 87 i) ∧ (∀ i, N3.1 88 i = N.1 88 i)) (J := fun M (_ : Int32 × Int32) N => mq_X M N) (m := fun (a : Int32 × Int32) _ => ((n : Int) - a.2.toInt).toNat) ?_ ?_ ⟨rfl, by dsimp only; omega, by dsimp only; omega, (by decide : 0 ≤ (0 : Int32).toInt), (by show (0 : Int32).toInt ≤ n; simp only [Int32.reduceToInt]; omega), hS2, hf2, by omega, hoc2, fun s hs => by simp only [Int32.reduceToInt] at hs; omega, fun i _ => (k2 87 i rfl).1, fun i => (k2 88 i rfl).1⟩
          · rintro ⟨x, s⟩ M3 b N3 ⟨rfl, x0, x1, s0, s1, hS3, hf3, hr3, ho3, hv, ho, h88⟩
            dsimp only at x0 x1 s0 s1 hv
            unfold mf_142_b31 mf_227_b32
            dsimp only
            rw [ho3, ← hnn]
            by_cases g : s < nn
            · rw [if_pos g, if_pos g, if_pos hS3.2.2.2.2.1]
              rw [Int32.lt_iff_toInt_lt, hn] at g
              have e1 : (s + 1).toInt = s.toInt + 1 := by rw [mi_add]; simp only [Int32.reduceToInt]; omega
              have e2 : (300 * tt + s).toInt = 300 * t + s.toInt := by rw [mi_add, e300]; omega
              refine mq_2_B (mq_2_K (mq_tabL (p := 50 + 5 * t) (cap := 258) (z1 := s) (z2 := tt) (z3 := nn) (z4 := s) hS3 hf3 x0 x1) mk_142_L44 mk_227_L45) ?_ ?_
              · rintro r M4 b N4 ⟨⟨rfl, r0, r1, hS4, hf4, hr4⟩, k3, k4⟩
                unfold mf_142_j105 mf_227_j100
                rw [if_pos (mq_inr (by omega) (by omega)), if_pos (mq_inr (by omega) (by omega))]
                have kM : mq_kp [(50 + 5 * t + 1, none)] M4 (mm_pi M4 (50 + 5 * t + 1) s.toNatClampNeg r) := mq_kp_pi mq_kp_refl (by simp [mq_ws])
                have kN : mq_kp [(87, none)] N4 (mm_pi N4 87 (300 * tt + s).toNatClampNeg r) := mq_kp_pi mq_kp_refl rfl
                have w1 : ([(50 + 5 * t + 1, none)] : List (Nat × Option Nat)).all (fun e => decide (e.1 < 1) || decide (4 < e.1)) = true := by simp; omega
                obtain ⟨u1, u2, u3, u4⟩ := mq_S_kp hS4 kM kN w1 rfl
                have kz : ∀ i, M4.1 (50 + 5 * t + 1) i = M3.1 (50 + 5 * t + 1) i := fun i => (k3 _ _ (mq_ws_out (a := 50) (b := 200) (by rfl) (by omega) (by omega))).1
                refine mq_2_ret (.inl ⟨_, _, rfl, rfl, ⟨rfl, r0, r1, by dsimp only; omega, by dsimp only; omega, u1, by rw [u3, u4]; exact hf4, by omega, ?_, ?_, ?_, ?_⟩, by dsimp only; omega⟩)
                · rw [mq_pn (by omega), (k3 42 9 rfl).1]; exact ho3
                · intro j hj
                  dsimp only at hj
                  have e3 : (300 * tt + s).toNatClampNeg = 300 * t + s.toNatClampNeg := by rw [mq_cl, mq_cl]; omega
                  by_cases q : j = s.toNatClampNeg
                  · rw [q, mq_ps, e3, mq_ps]; exact ⟨rfl, r0, r1⟩
                  · rw [mq_pj q, e3, mq_pj (by omega), kz, (k4 87 _ rfl).1]
                    rw [mq_cl] at q
                    exact hv j (by omega)
                · intro i hi
                  rw [mq_pj (by rw [mq_cl]; omega), (k4 87 i rfl).1]; exact ho i hi
                · intro i
                  rw [mq_pn (by decide), (k4 88 i rfl).1]; exact h88 i
              · rintro M4 b N4 ⟨hx, _, _⟩
                unfold mf_227_j100
                rw [if_pos (mq_inr (by omega) (by omega))]
                exact mq_1_ret (.inl ⟨_, rfl, mq_X_ob hx (mq_ob_pi mq_ob_refl rfl)⟩)
            · rw [if_neg g, if_neg g]
              rw [Int32.lt_iff_toInt_lt, hn] at g
              exact mq_2_ret (.inr ⟨_, _, rfl, rfl, hS3, hf3, hr3, ho3, fun s hs => hv s (by omega), ho, h88⟩)
          · intro M3 b N3 hx
            exact mq_xd hx (fun z => md_227_L32 z mq_ob_refl)
        · rintro _ M3 _ N3 ⟨hS3, hf3, hr3, ho3, hv, ho, h88⟩
          generalize hff : (fun s => (M3.1 (50 + 5 * t + 1) s).toInt.toNat) = f
          have vf : ∀ s, s < n → (M3.1 (50 + 5 * t + 1) s).toInt = f s ∧ f s ≤ 20 := by
            intro s hs
            obtain ⟨_, q2, q3⟩ := hv s hs
            rw [← hff]; dsimp only; omega
          have LR : ∀ s, s < n → (N3.1 87 (300 * t + s)).toInt = f s := by
            intro s hs
            rw [← (hv s hs).1]; exact (vf s hs).1
          unfold mf_142_j118 mf_227_j120
          rw [if_pos hS3.2.2.2.2.1, ho3, ← hnn]
          refine mq_2_Bl (mq_1_K (mq_make (p := 50 + 5 * t) (cap := 258) (n := n) (f := f) (by omega) hn2 (by omega) hn (fun s hs => (vf s hs).1) (fun s hs => (vf s hs).2)) mk_99) ?_
          rintro _ M4 ⟨hC, k3⟩
          obtain ⟨sp, esp, hsp⟩ := mq_taken (t := t) (n := n) (f := f) (tt := tt) (nn := nn) (N := N3) (by omega) (by omega) htt hn LR (fun s hs => (vf s hs).2)
          rw [esp, mq_Bs]
          have w1 : (mw_99 (50 + 5 * t)).all (fun e => decide (e.1 < 1) || decide (4 < e.1)) = true := by simp [mw_99]; omega
          obtain ⟨u1, u2, u3, _⟩ := mq_S_kp (w2 := []) hS3 k3 (mq_kp_refl (M := N3)) w1 rfl
          unfold mf_100
          have cc : (1048576 < M4.1 (50 + 5 * t) 5 ↔ 1048576 < sp) := by
            rw [Int32.lt_iff_toInt_lt, Int64.lt_iff_toInt_lt, hC.2.1, hsp]
            simp only [Int32.reduceToInt, Int64.reduceToInt]
          by_cases g : 1048576 < sp
          · rw [if_pos (cc.mpr g), if_pos g, mq_Bs, mq_27t, mq_Bt, mq_190, mq_Bs]
            unfold mf_227_j144
            rw [if_neg (show ¬ (mm_pi N3 84 7 1).1 84 7 = 0 from (by decide : ¬ (1 : Int32) = 0))]
            obtain ⟨x, N4, e, hx⟩ := mq_xd (mq_X_th (mq_S_bad u1)) (fun z => md_227_j158 (tt := tt) (nn := 0) (t := t) (n := 0) mq_ob_refl (by omega) (by omega) htt rfl)
            rw [e]
            exact mq_2_thr hx
          · rw [if_neg (fun q => g (cc.mp q)), if_neg g, mq_Bs, mq_27, mq_Bs]
            unfold mf_227_j144 mf_227_j158
            rw [if_pos hS3.2.2.2.2.1]
            refine mq_2_Br (mq_1_K (mq_assign (t := t) (n := n) (f := f) (by omega) (by omega) htt hn LR (fun s hs => (vf s hs).2)) mk_199) ?_
            rintro _ N4 ⟨⟨hR, x4⟩, k4⟩
            obtain ⟨s1, s2, _, s4⟩ := mq_S_kp (w := []) u1 (mq_kp_refl (M := M4)) k4 rfl rfl
            refine mq_2_ret ⟨s1, by rw [u3, s4]; exact hf3, by omega, ⟨f, hC, hR, fun s hs => (vf s hs).2⟩, ?_⟩
            intro i hi
            refine ⟨?_, ?_⟩
            · rw [x4 87 i (.inl (by decide))]; exact ho i hi
            · rw [x4 88 i (by rcases hi with q | q
                              · exact .inr (.inl q)
                              · exact .inr (.inr (by omega)))]
              exact h88 i
        · intro M3 b N3 hx
          exact mq_xd hx (fun z => md_227_j120 z mq_ob_refl (show t ≤ 6 by omega) htt)
  · rintro M2 b N2 ⟨hx, _, _⟩
    rw [if_neg (by rw [hx.2.2.2.1]; decide)]
    exact mq_t120d hx (show t ≤ 6 by omega) htt
