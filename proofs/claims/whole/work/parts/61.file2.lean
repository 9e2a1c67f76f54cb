/-! FORM 3: FILES, WHOLE -/
/-- live, at a byte's edge, with what blocks need -/
def mq_fw (M N : mm_M) : Prop := mq_W M N ∧ M.1 1 4 = 0 ∧ mq_RW N
theorem mq_fw_kp {M N M2 N2 : mm_M} {w w2 : List (Nat × Option Nat)} (h : mq_fw M N) (hW : mq_W M2 N2) (k1 : mq_kp w M M2) (k2 : mq_kp w2 N N2) (h1 : mq_ws w 1 4 = false) (h2 : w2.all (fun e => decide (e.1 < 89) || decide (89 < e.1)) = true) : mq_fw M2 N2 := ⟨hW, by rw [(k1 1 4 h1).1]; exact h.2.1, mq_RW_kp h.2.2 k2 h2⟩
theorem mq_f120 {M N : mm_M} {v : Int32} (h : mq_fw M N) : mq_2 mq_XE (mf_76_j130 v M) (mf_212_j120 v N) (fun _ M2 _ N2 => mq_Q M2 N2) := by
  obtain ⟨l1, l2, l3, l4⟩ := mq_W_lim h.1
  unfold mf_76_j130 mf_212_j120
  by_cases c : v &&& 2 = 0
  · rw [if_pos c, if_pos c]; exact mq_f165 h.1 h.2.1 h.2.2
  · rw [if_neg c, if_neg c]
    have eV : N.1 84 5 = M.1 1 2 := h.1.1.2.2.1.1.symm
    obtain ⟨x, e1, e2⟩ := mq_crc_is (p := 2) (n := 10000) (q := 85) (m := 10000) (v1 := 0) (v2 := M.1 1 2) (M := M) (N := N) (by decide) (by omega) (by omega) (fun j j0 j1 => (h.1.1.1.2.2.2 j (by omega)).1)
    rw [eV, e1, e2, mq_Bs, mq_Bs]
    refine mq_2_B (mq_2_K (mq_low1 h.1 (by decide) (by decide)) mk_47 mk_193) ?_ ?_
    · rintro y M3 b N3 ⟨⟨rfl, y1, hW3, hl3, hr3, hs3⟩, k1, k2⟩
      have h3 := mq_fw_kp h hW3 k1 k2 rfl rfl
      rw [if_pos hW3.1.2.2.2.2.1]
      unfold mf_76_j176
      by_cases d : y.toInt32 = x &&& 65535
      · rw [if_pos d, if_pos d, mq_27, mq_Bs]
        exact mq_f165 h3.1 h3.2.1 h3.2.2
      · rw [if_neg d, if_neg d, mq_27t, mq_Bt, mq_190, mq_Bs]
        obtain ⟨t, N4, e, hx⟩ := mq_xd (mq_X_th (mq_W_bad hW3)) (fun z => md_212_j165 z mq_ob_refl)
        rw [e]
        exact mq_2_thr hx
    · rintro M3 b N3 ⟨hx, _, _⟩
      rw [if_neg (by rw [hx.2.2.2.1]; decide)]
      exact mq_xd hx (fun z => md_212_j165 z mq_ob_refl)
theorem mq_f109 {M N : mm_M} {v : Int32} (h : mq_fw M N) : mq_2 mq_XE (mf_76_j119 v M) (mf_212_j109 v N) (fun _ M2 _ N2 => mq_Q M2 N2) := by
  unfold mf_76_j119 mf_212_j109
  by_cases c : v &&& 16 = 0
  · rw [if_pos c, if_pos c]; exact mq_f120 h
  · rw [if_neg c, if_neg c]
    refine mq_2_B (mq_2_K (mq_text h.1) mk_78 mk_211) ?_ ?_
    · rintro _ M3 _ N3 ⟨⟨q1, q2⟩, k1, k2⟩
      exact mq_f120 (mq_fw_kp h q1 k1 k2 rfl rfl)
    · rintro M3 b N3 ⟨hx, _, _⟩
      exact mq_xd hx (fun z => md_212_j120 z mq_ob_refl)
theorem mq_f98 {M N : mm_M} {v : Int32} (h : mq_fw M N) : mq_2 mq_XE (mf_76_j108 v M) (mf_212_j98 v N) (fun _ M2 _ N2 => mq_Q M2 N2) := by
  unfold mf_76_j108 mf_212_j98
  by_cases c : v &&& 8 = 0
  · rw [if_pos c, if_pos c]; exact mq_f109 h
  · rw [if_neg c, if_neg c]
    refine mq_2_B (mq_2_K (mq_text h.1) mk_78 mk_211) ?_ ?_
    · rintro _ M3 _ N3 ⟨⟨q1, q2⟩, k1, k2⟩
      exact mq_f109 (mq_fw_kp h q1 k1 k2 rfl rfl)
    · rintro M3 b N3 ⟨hx, _, _⟩
      exact mq_xd hx (fun z => md_212_j109 z mq_ob_refl)
theorem mq_f60 {M N : mm_M} {v : Int32} (h : mq_fw M N) : mq_2 mq_XE (if (v &&& (4 : Int32)) = 0 then (mf_76_j108 v M) else (mm_B (mf_47 (2 : Int32) M) (fun r3 M4 => mm_B (mf_77 r3.toInt32 M4) (fun _ M5 => mf_76_j108 v M5)))) (mf_212_j60 v N) (fun _ M2 _ N2 => mq_Q M2 N2) := by
  unfold mf_212_j60
  by_cases c : v &&& 4 = 0
  · rw [if_pos c, if_pos c]; exact mq_f98 h
  · rw [if_neg c, if_neg c]
    refine mq_2_B (mq_2_K (mq_low1 h.1 (by decide) (by decide)) mk_47 mk_193) ?_ ?_
    · rintro y M3 b N3 ⟨⟨rfl, y1, hW3, hl3, hr3, hs3⟩, k1, k2⟩
      have h3 := mq_fw_kp h hW3 k1 k2 rfl rfl
      unfold mf_77
      rw [mq_Ba]
      refine mq_2_B (mq_2_K (mq_passn (z := v) (n := y.toInt32) h3.1) mk_77_L2 mk_212_L75) ?_ ?_
      · rintro _ M4 _ N4 ⟨⟨q1, q2⟩, k3, k4⟩
        rw [mq_Bs]
        exact mq_f98 (mq_fw_kp h3 q1 k3 k4 rfl rfl)
      · rintro M4 b N4 ⟨hx, _, _⟩
        exact mq_xd hx (fun z => md_212_j98 z mq_ob_refl)
    · rintro M3 b N3 ⟨hx, _, _⟩
      exact mq_1_B (mq_xd hx (fun z => md_212_L75 z mq_ob_refl)) (fun _ _ hx => mq_xd hx (fun z => md_212_j98 z mq_ob_refl))
theorem mq_fileD {M N : mm_M} (hx : mq_X M N) : mq_1 (mm_B (mf_191 N) (fun r4 M5 => if (M5.1 84 7) = 0 then (if (31 : Int32) < r4 then (mm_B (mf_190 M5) (fun _ M6 => mm_B (mf_212_L43 r4 (0 : Int32) M6) (fun _ M7 => mf_212_j60 r4 M7))) else (mm_B (mf_212_L43 r4 (0 : Int32) M5) (fun _ M11 => mf_212_j60 r4 M11))) else (mm_B (mf_212_L43 r4 (0 : Int32) M5) (fun _ M15 => mf_212_j60 r4 M15)))) (fun _ N2 => mq_X M N2) := by
  refine mq_1_B (mq_xd hx (fun z => md_191 z)) (fun _ _ hx => ?_)
  rw [if_neg (by rw [hx.2.2.2.1]; decide)]
  exact mq_f43d hx
theorem mq_file {M N : mm_M} (h : mq_fw M N) : mq_2 mq_XE (mf_76 M) (mf_212 N) (fun _ M2 _ N2 => mq_Q M2 N2) := by
  unfold mf_76 mf_212 mf_76_j17
  refine mq_want'' h.1 ?_ ?_
  · intro M2 N2 w2 hl2 k1 k2
    have h2 := mq_fw_kp h w2 k1 k2 rfl rfl
    unfold mf_76_j38
    refine mq_want'' w2 ?_ ?_
    · intro M3 N3 w3 hl3 k3 k4
      have h3 := mq_fw_kp h2 w3 k3 k4 rfl rfl
      unfold mf_76_j58
      refine mq_want'' w3 ?_ ?_
      · intro M4 N4 w4 hl4 k5 k6
        have h4 := mq_fw_kp h3 w4 k5 k6 rfl rfl
        refine mq_2_B (mq_2_K (mq_next1 w4) mk_44 mk_191) ?_ ?_
        · rintro f M5 b N5 ⟨⟨rfl, f0, f1, w5, hl5, _⟩, k7, k8⟩
          have h5 := mq_fw_kp h4 w5 k7 k8 rfl rfl
          rw [if_pos w5.1.2.2.2.2.1]
          unfold mf_76_j80
          by_cases c : 31 < f
          · rw [if_pos c, if_pos c, mq_27t, mq_Bt, mq_190, mq_Bs]
            obtain ⟨t, N6, e, hx⟩ := mq_f43d (z := f) (v := f) (mq_X_th (mq_W_bad w5))
            rw [e]
            exact mq_2_thr hx
          · rw [if_neg c, if_neg c, mq_27, mq_Bs]
            unfold mf_77
            rw [mq_Ba]
            refine mq_2_B (mq_2_K (mq_pass6 (z := f) (n := 6) w5 rfl) mk_77_L2 mk_212_L43) ?_ ?_
            · rintro _ M6 _ N6 ⟨⟨q1, q2⟩, k9, k10⟩
              rw [mq_Bs]
              exact mq_f60 (mq_fw_kp h5 q1 k9 k10 rfl rfl)
            · rintro M6 b N6 ⟨hx, _, _⟩
              exact mq_xd hx (fun z => md_212_j60 z mq_ob_refl)
        · rintro M5 b N5 ⟨hx, _, _⟩
          rw [if_neg (by rw [hx.2.2.2.1]; decide)]
          exact mq_f43d hx
      · intro M4 N4 hx
        exact mq_fileD hx
    · intro M3 N3 hx
      exact mq_1_B (mq_xd hx (fun z => md_192 z)) (fun _ _ hx => mq_fileD hx)
  · intro M2 N2 hx
    exact mq_1_B (mq_xd hx (fun z => md_192 z)) (fun _ _ hx => mq_1_B (mq_xd hx (fun z => md_192 z)) (fun _ _ hx => mq_fileD hx))
