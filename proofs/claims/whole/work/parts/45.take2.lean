/-! CODES: a letter is taken, in step (the loop) -/
theorem mq_TC_kp {p n : Nat} {f : Nat → Nat} {M M2 : mm_M} (h : mq_TC p f n M) (hp : 2 ≤ p) (k : mq_kp mw_45 M M2) : mq_TC p f n M2 := by
  have z : ∀ q i, 2 ≤ q → mq_ws mw_45 q i = false := by
    intro q i hq
    simp [mq_ws, mw_45]
    omega
  obtain ⟨a, b, c, d⟩ := h
  refine ⟨?_, ?_, ?_, ?_⟩
  · rw [(k p 4 (z _ _ hp)).1]; exact a
  · rw [(k p 5 (z _ _ hp)).1]; exact b
  · intro l l0 l1; rw [(k (p + 3) l (z _ _ (by omega))).1]; exact c l l0 l1
  · intro s hs h0; rw [(k (p + 2) _ (z _ _ (by omega))).1]; exact d s hs h0
theorem mq_TR_kp {t n : Nat} {f : Nat → Nat} {N N2 : mm_M} (h : mq_TR t f n N) (k : mq_kp mw_197 N N2) : mq_TR t f n N2 := by
  intro s hs
  rw [(k 87 _ rfl).1, (k 88 _ rfl).1]; exact h s hs
theorem mq_takeL {M N : mm_M} {p cap t n : Nat} {f : Nat → Nat} {tt nn : Int32} (hS : mq_S M N) (hf : M.1 1 4 = N.1 84 13) (hC : mq_TC p f n M) (hR : mq_TR t f n N) (hp : 2 ≤ p) (ht : t ≤ 6) (hn3 : n ≤ 300) (htt : tt.toInt = 300 * t) (hnn : nn.toInt = n) (hfl : ∀ s, s < n → f s ≤ 20) (hu : 0 < mc_sp f n) : mq_2 (fun M r N => (r = .inl () ∧ mq_S M N) ∨ mq_X M N) (mf_103_L25 p cap ((0 : Int32), (0 : Int32), (0 : Int32), (1 : Int32)) M) (mf_202_L12 nn tt ((0 : Int32), (0 : Int32)) N) (fun u M2 r N2 => ∃ s : Nat, ∃ x : Int32, r = .inr (.inl x) ∧ s < n ∧ f s ≠ 0 ∧ x.toInt = ((300 * t + s : Nat) : Int) ∧ u.1.toInt = mc_H f n (f s) ∧ u.2.toInt = mc_ct f (f s) s ∧ mq_S M2 N2 ∧ M2.1 1 4 = N2.1 84 13 ∧ mq_TC p f n M2 ∧ mq_rem M2 < mq_rem M) := by
  unfold mf_103_L25 mf_202_L12
  have hspG := mc_sp_G n hfl
  have hspB := mc_sp_le (f := f) n
  refine mq_2_L (I := fun (a : Int32 × Int32 × Int32 × Int32) M2 (b : Int32 × Int32) N2 => ∃ l v : Nat, l ≤ 20 ∧ v < 2 ^ l ∧ mc_G f n l ≤ v ∧ v * 2 ^ (20 - l) < mc_G f n 20 ∧ a.1 = b.1 ∧ a.1.toInt = v ∧ b.2.toInt = l ∧ a.2.2.2.toInt = ((l + 1 : Nat) : Int) ∧ a.2.1.toInt = mc_G f n l ∧ a.2.2.1.toInt = mc_H f n (l + 1) ∧ mq_S M2 N2 ∧ M2.1 1 4 = N2.1 84 13 ∧ mq_TC p f n M2 ∧ mq_TR t f n N2 ∧ mq_rem M2 ≤ mq_rem M) (J := fun M (b : Int32 × Int32) N => (∃ l v : Nat, l ≤ 20 ∧ mc_G f n l ≤ v ∧ ¬ v * 2 ^ (20 - l) < mc_G f n 20 ∧ b.1.toInt = v ∧ b.2.toInt = l ∧ mq_S M N ∧ mq_TR t f n N) ∨ mq_X M N) (m := fun (a : Int32 × Int32 × Int32 × Int32) _ => (30 - a.2.2.2.toInt).toNat) ?_ ?_ ⟨0, 0, by omega, by decide, Nat.le_refl _, by omega, rfl, rfl, rfl, rfl, rfl, rfl, hS, hf, hC, hR, Int.le_refl _⟩
  · rintro ⟨code, first, behind, len⟩ M2 ⟨cv, ll⟩ N2 ⟨l, v, h20, hv2, hGv, hlt, e1, e2, e3, e4, e5, e6, hS, hf, hC, hR, hr⟩
    dsimp only at e1 e2 e3 e4 e5 e6
    subst e1
    have hl19 : l < 20 := by
      by_cases q : l < 20
      · exact q
      · have : l = 20 := by omega
        subst this
        simp at hlt
        omega
    have hv20 : v < 1048576 := Nat.lt_of_lt_of_le hv2 (Nat.le_trans (Nat.pow_le_pow_right (by decide) h20) (by decide))
    unfold mf_103_b25 mf_202_b12
    dsimp only
    have elen : (len + 1).toInt = ((l + 1 + 1 : Nat) : Int) := by rw [mi_add]; simp only [Int32.reduceToInt]; omega
    have ell : (ll + 1).toInt = ((l + 1 : Nat) : Int) := by rw [mi_add]; simp only [Int32.reduceToInt]; omega
    obtain ⟨rb, eb, hb⟩ := mq_begins (vv := code) (ll := ll) hR ht hn3 htt hnn e2 e3 hfl
    have hbt := (mc_begins hfl h20 hGv).mpr hlt
    rcases hb with ⟨_, hb⟩ | ⟨rfl, hb⟩
    · exact absurd hbt hb
    · rw [if_neg (show ¬ 20 < len from by rw [Int32.lt_iff_toInt_lt]; simp only [Int32.reduceToInt]; omega), if_pos hS.2.2.2.2.1, eb, mq_Bs]
      unfold mf_202_j86
      rw [if_neg (show ¬ (1 : Int32) = 0 from by decide)]
      refine mq_2_B (mq_2_K (mq_bit hS hf) mk_45 mk_197) ?_ ?_
      · rintro b M3 b' N3 ⟨⟨rfl, hb01, hS3, hf3, hr3⟩, k1, k2⟩
        have hC3 := mq_TC_kp hC hp k1
        have hR3 := mq_TR_kp hR k2
        obtain ⟨ev, _⟩ := mi_next e2 hv20 hb01
        have bn : ∃ bb : Nat, b.toInt = bb ∧ bb ≤ 1 := by
          rcases hb01 with rfl | rfl
          · exact ⟨0, rfl, by omega⟩
          · exact ⟨1, rfl, by omega⟩
        obtain ⟨bb, ebb, hbb⟩ := bn
        have ev2 : (mm_shl code 1 ||| b).toInt = ((2 * v + bb : Nat) : Int) := by omega
        generalize mm_shl code 1 ||| b = code2 at ev2
        have efst : (mm_shl first 1).toInt = ((2 * mc_G f n l : Nat) : Int) := by
          rw [mi_shl e5 (show (1 : Int32).toInt = ((1 : Nat) : Int) from rfl) (by decide) (by omega)]
          omega
        have hF : mc_F f n (l + 1) = 2 * mc_G f n l := rfl
        have hv3 : 2 * v + bb < 2 ^ (l + 1) := by rw [Nat.pow_succ]; omega
        have hv4 : 2 * v + bb < 1048576 := Nat.lt_of_lt_of_le hv3 (Nat.le_trans (Nat.pow_le_pow_right (by decide) (show l + 1 ≤ 20 from by omega)) (by decide))
        have eat : (code2 - mm_shl first 1).toInt = ((2 * v + bb - mc_F f n (l + 1) : Nat) : Int) := by rw [mi_sub, ev2, efst, hF]; omega
        have hin : mm_in len 21 = true := mq_inr (by omega) (by omega)
        have hln : len.toNatClampNeg = l + 1 := by rw [mq_cl]; omega
        have ecn : (M3.1 (p + 3) (l + 1)).toInt = mc_ct f (l + 1) n := hC3.2.2.1 (l + 1) (by omega) (by omega)
        have hcn : mc_cn f n (l + 1) = mc_ct f (l + 1) n := rfl
        have hG : mc_G f n (l + 1) = mc_F f n (l + 1) + mc_ct f (l + 1) n := rfl
        have hct := mc_ct_le (f := f) (l := l + 1) n
        obtain ⟨r2, em, hm⟩ := mq_match (vv := code2) (ll := ll + 1) hR3 ht hn3 htt hnn ev2 ell (by omega) hS3.2.2.2.2.1
        rw [em, mq_Bs, if_neg (show ¬ (code2 - mm_shl first 1) < 0 from by rw [Int32.lt_iff_toInt_lt, eat]; simp only [Int32.reduceToInt]; omega), if_pos hin, hln]
        rcases hm with ⟨rfl, hno⟩ | ⟨x, s, rfl, hx, hs1, hs2, hs3⟩
        · have hge : mc_G f n (l + 1) ≤ 2 * v + bb := by
            by_cases q : mc_G f n (l + 1) ≤ 2 * v + bb
            · exact q
            · obtain ⟨s, a1, a2, a3⟩ := mc_c_ex (f := f) (n := n) (l := l + 1) (v := 2 * v + bb) (by omega) (by rw [hF]; omega) (by omega)
              exact absurd ⟨s, a1, a2, a3⟩ hno
          rw [if_neg (show ¬ (code2 - mm_shl first 1) < M3.1 (p + 3) (l + 1) from by rw [Int32.lt_iff_toInt_lt, eat, ecn]; omega)]
          unfold mf_103_j78 mf_103_j97
          have e20 : ((20 : Int32) - len).toInt = ((20 - (l + 1) : Nat) : Int) := by rw [mi_sub]; simp only [Int32.reduceToInt]; omega
          have hpw : (2 * v + bb) * 2 ^ (20 - (l + 1)) < 1048576 := by
            have h1 : (2 * v + bb) * 2 ^ (20 - (l + 1)) < 2 ^ (l + 1) * 2 ^ (20 - (l + 1)) := Nat.mul_lt_mul_of_pos_right hv3 (Nat.pow_pos (by decide))
            rw [← Nat.pow_add, show l + 1 + (20 - (l + 1)) = 20 from by omega] at h1
            exact h1
          have esh := mi_shl ev2 e20 (by omega) (by omega)
          have esp : (M3.1 p 5).toInt = mc_G f n 20 := by rw [hC3.2.1, hspG]
          show mq_2 _ (if mm_shl code2 (20 - len) < M3.1 p 5 then _ else _) (some (Sum.inl (Sum.inl (code2, ll + 1)), N3)) _
          by_cases g : (2 * v + bb) * 2 ^ (20 - (l + 1)) < mc_G f n 20
          · rw [if_pos (show mm_shl code2 (20 - len) < M3.1 p 5 from by rw [Int32.lt_iff_toInt_lt, esh, esp]; exact_mod_cast g), mq_27, mq_Bs, if_pos hin, if_pos hin, hln]
            have hG2 : mc_G f n (l + 1) = 2 * mc_G f n l + mc_ct f (l + 1) n := rfl
            have hH2 : mc_H f n (l + 1 + 1) = mc_H f n (l + 1) + mc_ct f (l + 1) n := rfl
            have hHb := mc_H_us (f := f) (l := l + 1) n
            refine mq_2_ret (.inl ⟨_, _, rfl, rfl, ⟨l + 1, 2 * v + bb, by omega, hv3, hge, g, rfl, ev2, ell, elen, ?_, ?_, hS3, hf3, hC3, hR3, by omega⟩, ?_⟩)
            · dsimp only
              rw [mi_add, efst, ecn, hG2]; omega
            · dsimp only
              rw [mi_add, e6, ecn, hH2]; omega
            · dsimp only; omega
          · rw [if_neg (show ¬ mm_shl code2 (20 - len) < M3.1 p 5 from by rw [Int32.lt_iff_toInt_lt, esh, esp]; exact_mod_cast g), mq_27t, mq_Bt]
            exact mq_2_thr (.inl ⟨_, rfl, .inl ⟨l + 1, 2 * v + bb, by omega, hge, g, ev2, ell, hS3, hR3⟩⟩)
        · have hlt2 := mc_c_lt (f := f) hs1 (by omega)
          have hge2 := mc_c_ge (f := f) (n := n) (s := s)
          rw [hs2, hs3] at hlt2 hge2
          have hrk : mc_ct f (f s) s = 2 * v + bb - mc_F f n (l + 1) := by
            have : mc_c f n s = mc_F f n (f s) + mc_ct f (f s) s := rfl
            rw [hs3, hs2] at this
            rw [hs2]; omega
          rw [if_pos (show (code2 - mm_shl first 1) < M3.1 (p + 3) (l + 1) from by rw [Int32.lt_iff_toInt_lt, eat, ecn]; omega)]
          show mq_2 _ _ (some (Sum.inl (Sum.inr (Sum.inr (Sum.inl x))), N3)) _
          refine mq_2_ret (.inr ⟨_, _, rfl, rfl, s, x, rfl, hs1, by omega, hx, ?_, ?_, hS3, hf3, hC3, by omega⟩)
          · dsimp only; rw [hs2]; exact e6
          · dsimp only; rw [eat, hrk]
      · rintro M3 b N3 ⟨hx, _, _⟩
        refine mq_1_B (mq_xd hx (fun z => md_202_L114 z mq_ob_refl)) (fun r _ hx => ?_)
        cases r with
        | inl r => exact mq_1_ret (.inr ⟨_, rfl, .inr hx⟩)
        | inr r => exact mq_1_ret (.inl ⟨_, rfl, .inr hx⟩)
  · rintro M2 ⟨cv, ll⟩ N2 (⟨l, v, h20, hGv, hno, e1, e2, hS, hR⟩ | hx)
    · dsimp only at e1 e2
      rw [mm_L_eq]
      unfold mf_202_b12
      dsimp only
      obtain ⟨rb, eb, hb⟩ := mq_begins (vv := cv) (ll := ll) hR ht hn3 htt hnn e1 e2 hfl
      rcases hb with ⟨rfl, hb⟩ | ⟨_, hb⟩
      · rw [if_pos hS.2.2.2.2.1, eb, mq_Bs]
        unfold mf_202_j86
        rw [if_pos rfl]
        exact mq_1_ret (.inl ⟨rfl, hS⟩)
      · exact absurd ((mc_begins hfl h20 hGv).mp hb) hno
    · exact mq_1_mono (mq_xd hx (fun z => md_202_L12 (v2 := nn) (v3 := tt) z mq_ob_refl)) (fun _ _ q => .inr q)
theorem mq_take {M N : mm_M} {p cap t n : Nat} {f : Nat → Nat} {tt nn : Int32} (hS : mq_S M N) (hf : M.1 1 4 = N.1 84 13) (hC : mq_TC p f n M) (hR : mq_TR t f n N) (hp : 2 ≤ p) (ht : t ≤ 6) (hn : n ≤ cap) (hn3 : n ≤ 300) (htt : tt.toInt = t) (hnn : nn.toInt = n) (hfl : ∀ s, s < n → f s ≤ 20) : mq_2 mq_XE (mf_103 p cap M) (mf_202 tt nn N) (fun v M2 b N2 => v = b ∧ ∃ s : Nat, s < n ∧ f s ≠ 0 ∧ v.toInt = s ∧ mq_S M2 N2 ∧ M2.1 1 4 = N2.1 84 13 ∧ mq_rem M2 < mq_rem M) := by
  have e300 : ((300 : Int32) * tt).toInt = 300 * t := by rw [mi_mul, htt]; simp only [Int32.reduceToInt]; omega
  unfold mf_103 mf_202
  have hsp : (M.1 p 4 = 0 ↔ mc_us f n = 0) := by
    constructor
    · intro q
      have := congrArg Int32.toInt q
      rw [hC.1] at this
      simp only [Int32.reduceToInt] at this
      omega
    · intro q
      refine Int32.toInt_inj.mp ?_
      rw [hC.1, q]; rfl
  unfold mf_103_j12
  by_cases u : mc_us f n = 0
  · rw [if_pos (hsp.mpr u), mq_27t, mq_Bt]
    have hz := mc_us_0 u
    obtain ⟨rb, eb, hb⟩ := mq_begins (l := 0) (v := 0) (vv := 0) (ll := 0) hR ht hn3 e300 hnn rfl rfl hfl
    have eL : mf_202_L12 nn (300 * tt) (0, 0) N = some (.inl (.inl ()), N) := by
      unfold mf_202_L12
      rw [mm_L_eq]
      unfold mf_202_b12
      dsimp only
      rw [if_pos hS.2.2.2.2.1, eb, mq_Bs]
      rcases hb with ⟨rfl, _⟩ | ⟨_, s, s1, s2, _⟩
      · unfold mf_202_j86
        rw [if_pos rfl]; rfl
      · have := hz s s1; omega
    rw [eL, mq_Bs]
    exact mq_2_thr (mq_X_th (mq_S_bad hS))
  · rw [if_neg (fun q => u (hsp.mp q)), mq_27, mq_Bs]
    refine mq_2_B (mq_takeL (cap := cap) hS hf hC hR hp ht hn3 e300 hnn hfl (mc_us_pos u)) ?_ ?_
    · rintro ⟨bh, at_⟩ M2 r N2 ⟨s, x, rfl, h1, h2, h3, h4, h5, h6, h7, h8, h9⟩
      dsimp only at h4 h5
      unfold mf_103_j67
      dsimp only
      have hb := mc_H_us (f := f) (l := f s + 1) n
      have hb2 : mc_H f n (f s + 1) = mc_H f n (f s) + mc_ct f (f s) n := by
        show mc_H f n (f s) + mc_cn f n (f s) = _
        unfold mc_cn; rw [if_neg h2]
      have hb3 := mc_ct_lt (f := f) h1 rfl
      have e1 : (bh + at_).toInt = ((mc_H f n (f s) + mc_ct f (f s) s : Nat) : Int) := by rw [mi_add, h4, h5]; omega
      have e2 : (bh + at_).toNatClampNeg = mc_H f n (f s) + mc_ct f (f s) s := by rw [mq_cl]; omega
      rw [if_pos (mq_inr (by omega) (by omega)), e2]
      show mq_2 _ _ (some (Sum.inl (x - 300 * tt), N2)) _
      have e3 : (x - 300 * tt).toInt = s := by rw [mi_sub, h3, e300]; omega
      have e4 := h8.2.2.2 s h1 h2
      exact mq_2_ret ⟨Int32.toInt_inj.mp (by rw [e3, e4]), s, h1, h2, e4, h6, h7, h9⟩
    · rintro M2 r N2 (⟨rfl, hS2⟩ | hx)
      · exact mq_1_ret (mq_S_bad hS2)
      · rcases r with r | r | r
        · exact mq_xd hx (fun z => md_202_j91 z mq_ob_refl)
        · exact mq_1_ret hx
        · exact mq_1_ret hx
