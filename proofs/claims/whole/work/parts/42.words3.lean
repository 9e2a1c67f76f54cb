/-! FORMS 4 AND 5: THE LOOP OF CODES -/
def mq_wi (m c s : Int32) (M N : mm_M) (b : Int32 × Int32 × Int32 × Int32 × Int32) : Prop :=
  mq_S M N ∧ M.1 1 4 = N.1 84 13 ∧ M.1 35 8 = c ∧ M.1 35 11 = s ∧ M.1 35 9 = b.1 ∧ M.1 35 10 = b.2.1 ∧ m.toInt + 1 ≤ b.1.toInt ∧ b.1.toInt ≤ 12 ∧ c.toInt + 2 ≤ b.2.1.toInt ∧ b.2.1.toInt ≤ 4096 ∧ b.2.2.2.2 = 1 ∧ (M.1 35 12 = 1 ∧ b.2.2.2.1 = 0 ∨ M.1 35 12 = 0 ∧ M.1 35 13 = b.2.2.1 ∧ M.1 35 14 = b.2.2.2.1 ∧ 0 ≤ (M.1 35 13).toInt ∧ 1 ≤ (M.1 35 14).toInt ∧ (M.1 35 13).toInt + (M.1 35 14).toInt = (M.1 3 1).toInt) ∧ mq_wd c (M.1 3 1).toInt M N
theorem mq_wtail {M N : mm_M} {m c s w fr bf Z k : Int32} (hm : 0 ≤ m.toInt) (hs : s = 0 ∨ s = 1) (h : mq_wi m c s M N (w, fr, bf, Z, 1)) : mq_2 mq_XE (mm_B (mf_106 M) (fun _ M3 => some (.inl (.inl (k + 1)), M3)) : mm_O (Int32 ⊕ (Unit ⊕ Unit))) (mf_215_j224 m s c w fr bf Z 1 N) (fun r M2 t N2 => r = .inl (k + 1) ∧ (∃ b, t = .inl b ∧ mq_wi m c s M2 N2 b) ∧ mq_rem M2 = mq_rem M) := by
  obtain ⟨hS, hf, e8, e11, e9, e10, w0, w1, f0, f1, hmo, hb, hw⟩ := h
  dsimp only at e9 e10 w0 w1 f0 f1 hmo hb
  unfold mf_106 mf_215_j224
  rw [e9, e10, e11]
  have ew : w.toInt < 12 → (w + 1).toInt = w.toInt + 1 := by intro q; rw [mi_add]; simp only [Int32.reduceToInt]; omega
  have same : mq_wi m c s M N (w + 0, fr, bf, Z, 1) := ⟨hS, hf, e8, e11, by rw [mi_z]; exact e9, e10, by rw [mi_z]; exact w0, by rw [mi_z]; exact w1, f0, f1, rfl, hb, hw⟩
  by_cases c1 : w < 12
  · rw [if_pos c1, if_pos c1]
    have c2 := c1
    rw [Int32.lt_iff_toInt_lt] at c2
    have ew := ew c2
    have more : mq_wi m c s (mm_pi M 35 9 (w + 1)) N (w + 1, fr, bf, Z, 1) := ⟨hS, hf, e8, e11, rfl, e10, by dsimp only; omega, by dsimp only; simp only [Int32.reduceToInt] at c2; omega, f0, f1, rfl, hb, hw⟩
    have key : mq_2 mq_XE (mm_B (if fr + s < mm_shl 1 w then some (.inl (), M) else some (.inl (), mm_pi M 35 9 (w + 1))) (fun _ M3 => some (.inl (.inl (k + 1)), M3)) : mm_O (Int32 ⊕ (Unit ⊕ Unit))) (mf_215_j244 m s c w fr bf Z 1 w fr s N) (fun r M2 t N2 => r = .inl (k + 1) ∧ (∃ b, t = .inl b ∧ mq_wi m c s M2 N2 b) ∧ mq_rem M2 = mq_rem M) := by
      unfold mf_215_j244
      by_cases c3 : fr + s < mm_shl 1 w
      · rw [if_pos c3, if_pos c3, mq_Bs]
        exact mq_2_ret ⟨rfl, ⟨_, rfl, same⟩, rfl⟩
      · rw [if_neg c3, if_neg c3, mq_Bs]
        exact mq_2_ret ⟨rfl, ⟨_, rfl, more⟩, rfl⟩
    rcases hs with rfl | rfl
    · rw [if_pos rfl]; exact key
    · rw [if_neg (show ¬ (1 : Int32) = 0 from by decide)]; exact key
  · rw [if_neg c1, if_neg c1, mq_Bs]
    exact mq_2_ret ⟨rfl, ⟨_, rfl, same⟩, rfl⟩
theorem mq_w224d {M N : mm_M} {m c s w fr bf Z v8 : Int32} (hx : mq_X M N) : mq_1 (mf_215_j224 m s c w fr bf Z v8 N) (fun t N => (∃ b, t = .inl b ∧ mq_X M N) ∨ (∃ v, t = .inr v ∧ mq_X M N)) := by
  unfold mf_215_j224 mf_215_j244
  refine mq_1_ite (fun _ => mq_1_ite (fun _ => mq_1_ite (fun _ => ?_) (fun _ => ?_)) (fun _ => mq_1_ite (fun _ => ?_) (fun _ => ?_))) (fun _ => ?_)
  all_goals exact mq_1_ret (.inl ⟨_, rfl, hx⟩)
theorem mq_w134d {M N : mm_M} {m c s w fr v8 code : Int32} (hx : mq_X M N) : mq_1 (mf_215_j134 m s c w fr v8 code N) (fun t N => (∃ b, t = .inl b ∧ mq_X M N) ∨ (∃ v, t = .inr v ∧ mq_X M N)) := by
  unfold mf_215_j134
  refine mq_1_ite (fun _ => ?_) (fun _ => ?_)
  · exact mq_1_B (mq_xd hx (fun z => md_215_L173 z mq_ob_refl)) (fun _ _ hx => mq_w224d hx)
  · rw [if_neg (by rw [hx.2.2.2.1]; decide)]
    exact mq_1_B (mq_xd hx (fun z => md_215_L173 z mq_ob_refl)) (fun _ _ hx => mq_w224d hx)
/-- after the new word is told: the code is looked at, the word put, the width looked at -/
theorem mq_wput2 {M N : mm_M} {m c s w fr code k : Int32} (hm : 2 ≤ m.toInt) (hs : s = 0 ∨ s = 1) (hS : mq_S M N) (hf : M.1 1 4 = N.1 84 13) (e8 : M.1 35 8 = c) (e11 : M.1 35 11 = s) (e9 : M.1 35 9 = w) (e10 : M.1 35 10 = fr) (e12 : M.1 35 12 = 0) (w0 : m.toInt + 1 ≤ w.toInt) (w1 : w.toInt ≤ 12) (f0 : c.toInt + 2 ≤ fr.toInt) (f1 : fr.toInt ≤ 4096) (c0 : 4 ≤ c.toInt) (c1 : c.toInt ≤ 256) (d0 : 0 ≤ code.toInt) (d3 : code.toInt < c.toInt ∨ c.toInt + 2 ≤ code.toInt) (hw : mq_wd c (M.1 3 1).toInt M N) : mq_2 (fun M t N => (∃ b, t = .inl b ∧ mq_X M N) ∨ (∃ v, t = .inr v ∧ mq_X M N)) (if code < M.1 35 10 then mf_109_j64 k code 0 M else mf_109_j64 k code 1 M) (mf_215_j123 m s c w fr 1 code N) (fun r M2 t N2 => r = .inl (k + 1) ∧ (∃ b, t = .inl b ∧ mq_wi m c s M2 N2 b) ∧ mq_rem M2 = mq_rem M) := by
  unfold mf_215_j123 mf_109_j64
  rw [e10]
  by_cases a : code < fr
  · rw [if_pos a, if_pos a, mq_27, mq_Bs]
    rw [Int32.lt_iff_toInt_lt] at a
    unfold mf_215_j134
    refine mq_wput (g := fun Z M1 => mf_215_j224 m s c w fr (N.1 84 4) Z 1 M1) hS e8 c0 c1 d0 (by rw [e10]; exact a) (by rw [e10]; exact f1) d3 hw ?_ (fun _ _ _ hx => mq_w224d hx)
    intro M2 N2 Z hS2 z1 z2 z3 z4 hr k1 k2
    have u := hS.2.1
    have q : mq_wi m c s M2 N2 (w, fr, N.1 84 4, Z, 1) := by
      refine ⟨hS2, ?_, ?_, ?_, ?_, ?_, w0, w1, f0, f1, rfl, .inr ⟨?_, ?_, z1, ?_, ?_, ?_⟩, ?_⟩
      · rw [(k1 1 4 rfl).1, (k2 84 13 rfl).1]; exact hf
      · rw [(k1 35 8 rfl).1]; exact e8
      · rw [(k1 35 11 rfl).1]; exact e11
      · rw [(k1 35 9 rfl).1]; exact e9
      · rw [(k1 35 10 rfl).1]; exact e10
      · rw [(k1 35 12 rfl).1]; exact e12
      · rw [z2]; exact u.1
      · rw [z2]; exact u.2.1
      · rw [z1]; exact z3
      · rw [z1, z2, z4]
      · intro j j0 j1
        rw [(k1 35 10 rfl).1] at j1
        rw [(k1 36 j rfl).1, (k1 37 j rfl).1, (k2 91 j rfl).1, (k2 92 j rfl).1]
        obtain ⟨a1, a2, a3, a4, a5, a6⟩ := hw j j0 j1
        exact ⟨a1, a2, a3, a4, by omega, by omega⟩
    refine mq_2_mono (mq_wtail (k := k) (by omega) hs q) ?_ (fun _ _ _ q => ?_)
    · rintro r M3 t N3 ⟨q1, q2, q3⟩
      exact ⟨q1, q2, q3.trans hr⟩
    · rename_i t _
      cases t with
      | inl b => exact .inl ⟨b, rfl, q⟩
      | inr b => exact .inr ⟨b, rfl, q⟩
  · rw [if_neg a, if_neg a, mq_27t, mq_Bt, mq_190, mq_Bs]
    obtain ⟨t, N2, e, hx⟩ := mq_w134d (m := m) (c := c) (s := s) (w := w) (fr := fr) (v8 := 1) (code := code) (mq_X_th (mq_S_bad hS))
    rw [e]
    exact mq_2_thr hx
/-- the loop of codes -/
theorem mq_wloop {M N : mm_M} {m c s : Int32} {b0 : Int32 × Int32 × Int32 × Int32 × Int32} (hm : 2 ≤ m.toInt) (hm2 : m.toInt ≤ 8) (hs : s = 0 ∨ s = 1) (ec : mm_shl 1 m = c) (c0 : 4 ≤ c.toInt) (c1 : c.toInt ≤ 256) (h : mq_wi m c s M N b0) : mq_2 mq_XE (mf_109_L2 0 M) (mf_215_L23 m s c b0 N) (fun _ M2 _ N2 => mq_S M2 N2) := by
  unfold mf_109_L2 mf_215_L23
  refine mq_2_L4 (I := fun a M2 b N2 => 0 ≤ a.toInt ∧ a.toInt + mq_rem M2 ≤ 80007 ∧ mq_wi m c s M2 N2 b) (J := fun M _ N => mq_X M N) (m := fun _ M => (mq_rem M).toNat) ?_ ?_ ⟨by decide, ?_, h⟩
  · rintro k M2 ⟨w, fr, bf, bs, mo⟩ N2 ⟨k0, k1, hI⟩
    have hI0 := hI
    obtain ⟨hS, hf, e8, e11, e9, e10, w0, w1, f0, f1, hmo, hb, hw⟩ := hI
    dsimp only at e9 e10 w0 w1 f0 f1 hmo hb
    subst hmo
    have lim := mq_S_lim hS
    unfold mf_109_b2 mf_215_b23
    dsimp only
    have ek : (k + 1).toInt = k.toInt + 1 := by rw [mi_add]; simp only [Int32.reduceToInt]; omega
    rw [if_pos (show k < 1000000 from by rw [Int32.lt_iff_toInt_lt]; simp only [Int32.reduceToInt]; omega), if_neg (show ¬ (1 : Int32) = 0 from by decide), if_pos hS.2.2.2.2.1, e9]
    refine mq_2_B (mq_2_K (mq_bits hS hf (n := w) (by omega) (by omega)) mk_46 mk_198) ?_ ?_
    · rintro v M3 b N3 ⟨⟨rfl, v1, hS3, hf3, hr3⟩, k3, k4⟩
      have lim3 := mq_S_lim hS3
      have vb : mq_n v < 4096 := Nat.lt_of_lt_of_le v1 (show _ ≤ 2 ^ 12 from Nat.pow_le_pow_right (by decide) (by omega))
      have v2 : v.toInt = mq_n v := mq_n_int (by omega)
      have v3 : v.toInt32.toInt = mq_n v := by rw [Int64.toInt_toInt32, mi_bm]; omega
      generalize v.toInt32 = code at v3
      have g8 : M3.1 35 8 = c := by rw [(k3 35 8 rfl).1]; exact e8
      have g9 : M3.1 35 9 = w := by rw [(k3 35 9 rfl).1]; exact e9
      have g10 : M3.1 35 10 = fr := by rw [(k3 35 10 rfl).1]; exact e10
      have g11 : M3.1 35 11 = s := by rw [(k3 35 11 rfl).1]; exact e11
      have g12 : M3.1 35 12 = M2.1 35 12 := (k3 35 12 rfl).1
      have g13 : M3.1 35 13 = M2.1 35 13 := (k3 35 13 rfl).1
      have g14 : M3.1 35 14 = M2.1 35 14 := (k3 35 14 rfl).1
      have gs : M3.1 3 1 = M2.1 3 1 := (k3 3 1 rfl).1
      have hw3 : mq_wd c (M3.1 3 1).toInt M3 N3 := by
        intro j j0 j1
        rw [g10] at j1
        rw [gs, (k3 36 j rfl).1, (k3 37 j rfl).1, (k4 91 j rfl).1, (k4 92 j rfl).1]
        exact hw j j0 (by rw [e10]; exact j1)
      have ecl : (c + 1).toInt = c.toInt + 1 := by rw [mi_add]; simp only [Int32.reduceToInt]; omega
      have ec2 : (c + 2).toInt = c.toInt + 2 := by rw [mi_add]; simp only [Int32.reduceToInt]; omega
      rw [if_pos hS3.2.2.2.2.1, g8]
      by_cases a : code = c + 1
      · rw [if_pos a, if_pos a]
        refine mq_2_ret (.inr (.inr (.inl ⟨_, _, rfl, rfl, ?_⟩)))
        rw [mm_L_eq]
        exact mq_1_ret hS3
      · rw [if_neg a, if_neg a]
        by_cases a2 : code = c
        · rw [if_pos a2, if_pos a2]
          unfold mf_105
          rw [g8, ← ec, mq_top2 (by omega) (by omega), mq_Bs, mq_Bs, ec, g8]
          have em : (m + 1).toInt = m.toInt + 1 := by rw [mi_add]; simp only [Int32.reduceToInt]; omega
          refine mq_2_ret (.inl ⟨_, _, rfl, rfl, ⟨by omega, ?_, hS3, hf3, g8, g11, rfl, rfl, ?_, ?_, ?_, ?_, rfl, .inl ⟨rfl, rfl⟩, ?_⟩, ?_⟩)
          · show (k + 1).toInt + mq_rem M3 ≤ 80007
            omega
          · dsimp only; omega
          · dsimp only; omega
          · dsimp only; omega
          · dsimp only; omega
          · intro j j0 j1
            have j1 : (j : Int) < (c + 2).toInt := j1
            omega
          · show (mq_rem M3).toNat < (mq_rem M2).toNat
            omega
        · rw [if_neg a2, if_neg a2]
          have n1 : code.toInt ≠ c.toInt := fun q => a2 (Int32.toInt_inj.mp q)
          have n2 : code.toInt ≠ c.toInt + 1 := fun q => a (Int32.toInt_inj.mp (by omega))
          have d3 : code.toInt < c.toInt ∨ c.toInt + 2 ≤ code.toInt := by omega
          have fin : ∀ {M4 N4 : mm_M} {fr4 : Int32}, mq_S M4 N4 → M4.1 1 4 = N4.1 84 13 → M4.1 35 8 = c → M4.1 35 11 = s → M4.1 35 9 = w → M4.1 35 10 = fr4 → M4.1 35 12 = 0 → c.toInt + 2 ≤ fr4.toInt → fr4.toInt ≤ 4096 → mq_wd c (M4.1 3 1).toInt M4 N4 → mq_rem M4 = mq_rem M3 → mq_2 (fun M t N => (∃ b, t = .inl b ∧ mq_X M N) ∨ (∃ v, t = .inr v ∧ mq_X M N)) (if code < M4.1 35 10 then mf_109_j64 k code 0 M4 else mf_109_j64 k code 1 M4) (mf_215_j123 m s c w fr4 1 code N4) (fun r M5 t N5 => (∃ a2 b2, r = .inl a2 ∧ t = .inl b2 ∧ (0 ≤ a2.toInt ∧ a2.toInt + mq_rem M5 ≤ 80007 ∧ mq_wi m c s M5 N5 b2) ∧ (mq_rem M5).toNat < (mq_rem M2).toNat) ∨ (∃ u v, r = .inr u ∧ t = .inr v ∧ mq_S M5 N5) ∨ (∃ u b2, r = .inr u ∧ t = .inl b2 ∧ mq_1 (mm_L (fun s_1 M => mf_215_b23 m s c s_1.1 s_1.2.1 s_1.2.2.1 s_1.2.2.2.1 s_1.2.2.2.2 M) b2 N5) (fun v N3 => mq_S M5 N3)) ∨ (∃ a2 v, r = .inl a2 ∧ t = .inr v ∧ mq_1 (mm_L (fun s M => mf_109_b2 s M) a2 M5) (fun u M3 => mq_S M3 N5))) := by
            intro M4 N4 fr4 q1 q2 q3 q4 q5 q6 q7 q8 q9 q10 q11
            refine mq_2_mono (mq_wput2 (k := k) hm hs q1 q2 q3 q4 q5 q6 q7 w0 w1 q8 q9 c0 c1 (by omega) d3 q10) ?_ (fun _ _ _ q => q)
            rintro r M5 t N5 ⟨rfl, ⟨b5, rfl, r1⟩, r2⟩
            exact .inl ⟨_, _, rfl, rfl, ⟨by omega, by omega, r1⟩, by omega⟩
          unfold mf_110
          rw [g12]
          rcases hb with ⟨b1, b2⟩ | ⟨b1, b2, b3, b4, b5, b6⟩
          · rw [b1, b2, if_neg (show ¬ (1 : Int32) = 0 from by decide), if_neg (show ¬ (0 : Int32) < 0 from by decide), mq_Bs]
            exact fin hS3 hf3 g8 g11 g9 g10 rfl f0 f1 hw3 rfl
          · rw [b1, if_pos rfl, if_pos (show 0 < bs from by rw [Int32.lt_iff_toInt_lt, ← b3]; simp only [Int32.reduceToInt]; omega), g10]
            by_cases a3 : fr < 4096
            · rw [if_pos a3, if_pos a3]
              rw [Int32.lt_iff_toInt_lt] at a3
              simp only [Int32.reduceToInt] at a3
              have hin : mm_in fr 4096 = true := mq_inr (by omega) (by omega)
              rw [if_pos hin, if_pos hin, if_pos hin, if_pos hin, mq_Bs, g13, g14, b2, b3]
              have ef : (fr + 1).toInt = fr.toInt + 1 := by rw [mi_add]; simp only [Int32.reduceToInt]; omega
              have u := hS3.2.1
              have ebs : (bs + 1).toInt = bs.toInt + 1 := by rw [mi_add]; rw [b3] at b5 b6; have := u.2.2.1; rw [gs] at this; simp only [Int32.reduceToInt]; omega
              refine fin hS3 hf3 g8 g11 g9 rfl rfl (by omega) (by omega) ?_ rfl
              intro j j0 j1
              have j1 : (j : Int) < (fr + 1).toInt := j1
              show (if j = fr.toNatClampNeg then bf else M3.1 36 j) = (if j = fr.toNatClampNeg then bf else N3.1 91 j) ∧ (if j = fr.toNatClampNeg then bs + 1 else M3.1 37 j) = (if j = fr.toNatClampNeg then bs + 1 else N3.1 92 j) ∧ 0 ≤ (if j = fr.toNatClampNeg then bf else M3.1 36 j).toInt ∧ 1 ≤ (if j = fr.toNatClampNeg then bs + 1 else M3.1 37 j).toInt ∧ (if j = fr.toNatClampNeg then bf else M3.1 36 j).toInt < (M3.1 3 1).toInt ∧ (if j = fr.toNatClampNeg then bf else M3.1 36 j).toInt + (if j = fr.toNatClampNeg then bs + 1 else M3.1 37 j).toInt ≤ (M3.1 3 1).toInt + 1
              by_cases a4 : j = fr.toNatClampNeg
              · rw [if_pos a4, if_pos a4, if_pos a4, if_pos a4, gs]
                rw [b2] at b4 b6
                rw [b3] at b5 b6
                exact ⟨rfl, rfl, b4, by omega, by omega, by omega⟩
              · rw [if_neg a4, if_neg a4, if_neg a4, if_neg a4]
                rw [mq_cl] at a4
                exact hw3 j j0 (by rw [g10]; omega)
            · rw [if_neg a3, if_neg a3, mq_Bs]
              exact fin hS3 hf3 g8 g11 g9 g10 rfl f0 f1 hw3 rfl
    · rintro M3 b N3 ⟨hx, _, _⟩
      rw [if_neg (by rw [hx.2.2.2.1]; decide)]
      exact mq_1_ret (.inl ⟨_, rfl, hx⟩)
  · intro M2 b N2 hx
    exact mq_xd hx (fun z => md_215_L23 z mq_ob_refl)
  · have := mq_S_lim h.1
    simp only [Int32.reduceToInt]
    omega
theorem mq_words {M N : mm_M} {m s : Int32} (hm : 2 ≤ m.toInt) (hm2 : m.toInt ≤ 8) (hs : s = 0 ∨ s = 1) (h : mq_S M N) (hf : M.1 1 4 = N.1 84 13) : mq_2 mq_XE (mm_B (mf_104 m s M) (fun _ M2 => mm_B (mf_109 M2) (fun _ M3 => some (.inl (), M3))) : mm_O Unit) (mf_215 m s N) (fun _ M2 _ N2 => mq_S M2 N2) := by
  have e := mi_shl1' (m := m) (by omega) (by omega)
  have p1 : 2 ^ 2 ≤ 2 ^ m.toInt.toNat := Nat.pow_le_pow_right (by decide) (by omega)
  have p2 : 2 ^ m.toInt.toNat ≤ 2 ^ 8 := Nat.pow_le_pow_right (by decide) (by omega)
  unfold mf_104 mf_105 mf_215
  rw [show (mm_pi (mm_pi M 35 8 (mm_shl 1 m)) 35 11 s).1 35 8 = mm_shl 1 m from rfl, mq_top2 (by omega) (by omega), mq_Bs, mq_Bs, mq_Bs]
  unfold mf_109
  rw [mq_Ba]
  have em : (m + 1).toInt = m.toInt + 1 := by rw [mi_add]; simp only [Int32.reduceToInt]; omega
  have ec : (mm_shl 1 m + 2).toInt = (mm_shl 1 m).toInt + 2 := by rw [mi_add]; simp only [Int32.reduceToInt]; omega
  refine mq_2_B (mq_wloop (c := mm_shl 1 m) (s := s) hm hm2 hs rfl (by omega) (by omega) ⟨h, hf, rfl, rfl, rfl, rfl, ?_, ?_, ?_, ?_, rfl, .inl ⟨rfl, rfl⟩, ?_⟩) ?_ (fun _ _ _ q => mq_1_ret q)
  · dsimp only; omega
  · dsimp only; omega
  · show _ ≤ (mm_shl 1 m + 2).toInt; omega
  · show (mm_shl 1 m + 2).toInt ≤ _; omega
  · intro j j0 j1
    have j1 : (j : Int) < (mm_shl 1 m + 2).toInt := j1
    omega
  · rintro r M2 b N2 q
    cases r with
    | inl u => exact mq_2_ret q
    | inr u => exact mq_2_ret q
theorem mq_wlow {M N : mm_M} (h : mq_W M N) (hf : M.1 1 4 = 0) : mq_2 mq_XE (mf_107 M) (mf_216 N) (fun _ M2 _ N2 => mq_S M2 N2) := by
  unfold mf_107 mf_216
  refine mq_2_B (mq_2_K (mq_next1 h) mk_44 mk_191) ?_ ?_
  · rintro m M2 b N2 ⟨⟨rfl, v0, v1, hW, hl, hr, h3⟩, k1, k2⟩
    rw [if_pos hW.1.2.2.2.2.1]
    have bad : mq_2 mq_XE (mf_107_j24 m 1 M2) (mf_216_j23 m N2) (fun _ M2 _ N2 => mq_S M2 N2) := by
      unfold mf_107_j24 mf_216_j23
      rw [mq_27t, mq_Bt, mq_190, mq_Bs]
      obtain ⟨t, N3, e, hx⟩ := mq_xd (mq_W_bad hW) (fun z => md_216_j27 (v1 := m) z mq_ob_refl)
      rw [e]
      exact mq_2_thr hx
    by_cases c : m < 2
    · rw [if_pos c, if_pos c]; exact bad
    · rw [if_neg c, if_neg c]
      by_cases d : 8 < m
      · rw [if_pos d, if_pos d]; exact bad
      · rw [if_neg d, if_neg d]
        rw [Int32.lt_iff_toInt_lt] at c d
        simp only [Int32.reduceToInt] at c d
        unfold mf_107_j24 mf_216_j27
        rw [mq_27, mq_Bs, if_pos hW.1.2.2.2.2.1]
        have hw := mq_words (m := m) (s := 0) (M := M2) (N := mm_pi N2 84 13 0) (by omega) (by omega) (.inl rfl) hW.1 (by rw [(k1 1 4 rfl).1]; exact hf)
        exact mq_2_By hw (fun _ _ _ _ q => mq_2_ret q) (fun _ _ _ q => mq_1_ret q)
  · rintro M2 b N2 ⟨hx, _, _⟩
    rw [if_neg (by rw [hx.2.2.2.1]; decide)]
    exact mq_xd hx (fun z => md_216_j27 z mq_ob_refl)
theorem mq_whigh {M N : mm_M} (h : mq_S M N) (hf : N.1 84 13 = 1) : mq_2 mq_XE (mf_108 M) (mf_215 8 1 N) (fun _ M2 _ N2 => mq_S M2 N2) := by
  unfold mf_108
  exact mq_words (m := 8) (s := 1) (M := mm_pi M 1 4 1) (by decide) (by decide) (.inr rfl) h hf.symm
