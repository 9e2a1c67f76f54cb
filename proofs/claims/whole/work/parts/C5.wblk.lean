/-! WRITING: SORTED, the block's bits -/
theorem mi_lshr0 (s : Int32) : (mm_lshr 0 s).toInt32 &&& 1 = 0 := by
  rw [← mi_bitL, mi_lush0]
  decide
theorem mq_zeros {M N : mm_M} {n : Int32} {s1 : Int32 → mm_M → mm_O (Int32 ⊕ Unit)} (hs : ∀ a M2, mq_kp mq_wM M M2 → s1 a M2 = if a < n then (mm_B (mf_61 (0 : Int32) M2) (fun _ M1 => some (.inl (.inl (a + (1 : Int32))), M1))) else (some (.inl (.inr ()), M2))) (h : mq_P M N) (hf : M.1 5 3 = N.1 84 13) (n0 : 0 ≤ n.toInt) (hz : mq_z N + n.toInt ≤ 1000000000) : mq_2 mq_F (mm_L s1 0 M) (mf_249 0 n 1 N) (mq_po n.toInt M N) := by
  unfold mf_249
  refine mq_2_Br' (E := mq_F) (P := fun _ M2 _ N2 => mq_po n.toInt M N () M2 () N2) ?_ (fun _ _ _ _ q => ⟨_, rfl, q⟩) (fun _ _ _ q => q.elim)
  unfold mf_249_L3
  refine mq_2_Lf (I := fun (a : Int32) M2 (b : Int32) N2 => a = b ∧ 0 ≤ a.toInt ∧ a.toInt ≤ n.toInt ∧ mq_po a.toInt M N () M2 () N2) (m := fun a _ => (n.toInt - a.toInt).toNat) ?_ ⟨rfl, by decide, n0, h, by simp only [Int32.reduceToInt]; omega, mq_kp_refl, mq_kp_refl⟩
  rintro a M2 b N2 ⟨rfl, a0, a1, hP, z2, f1, f2⟩
  rw [hs a M2 f1]
  unfold mf_249_b3 mf_249_j27
  by_cases c : a < n
  · rw [if_pos c, if_pos c, if_neg (by decide), mi_lshr0]
    rw [Int32.lt_iff_toInt_lt] at c
    have e1 : (a + 1).toInt = a.toInt + 1 := by rw [mi_add]; simp only [Int32.reduceToInt]; have := mq_hi n; omega
    refine mq_2_Bf (mq_wbit hP (by rw [(f1 5 3 rfl).1, (f2 84 13 rfl).1, hf]) (by omega) (.inl rfl)) ?_
    rintro _ M3 _ N3 ⟨⟨p, z, k1, k2⟩, _⟩
    exact mq_2_ret (.inl ⟨_, _, rfl, rfl, ⟨rfl, by omega, by omega, p, by omega, mq_kp_trans f1 k1, mq_kp_trans f2 k2⟩, by omega⟩)
  · rw [if_neg c, if_neg c]
    rw [Int32.lt_iff_toInt_lt] at c
    exact mq_2_ret (.inr ⟨_, _, rfl, rfl, hP, by omega, f1, f2⟩)
theorem mq_bit0 {M N : mm_M} (h : mq_P M N) (hf : M.1 5 3 = N.1 84 13) (hz : mq_z N ≤ 900000000) : mq_2 mq_F (mf_61 0 M) (mf_249 0 1 1 N) (mq_po 1 M N) := by
  have L := mq_zeros (s1 := fun a M2 => if a < (1 : Int32) then (mm_B (mf_61 (0 : Int32) M2) (fun _ M1 => some (.inl (.inl (a + (1 : Int32))), M1))) else (some (.inl (.inr ()), M2))) (M := M) (N := N) (n := 1) (fun _ _ _ => rfl) h hf (by decide) (by simp only [Int32.reduceToInt]; omega)
  obtain ⟨b, N2, e, q⟩ := L
  rcases q with ⟨a, M2, e1, q⟩ | ⟨_, _, q⟩
  · rw [mm_L_eq] at e1
    rw [if_pos (by decide)] at e1
    match hx : mf_61 0 M, e1 with
    | none, e1 => cases e1
    | some (.inr z, M3), e1 => cases e1
    | some (.inl z, M3), e1 =>
      have e2 : mm_L (fun (a : Int32) M2 => if a < (1 : Int32) then (mm_B (mf_61 (0 : Int32) M2) (fun _ M1 => (some (.inl (.inl (a + (1 : Int32))), M1) : mm_O (Int32 ⊕ Unit)))) else (some (.inl (.inr ()), M2))) (0 + 1) M3 = some (.inl (), M3) := by
        rw [mm_L_eq, if_neg (by decide)]
        rfl
      have e3 : (some (.inl (), M3) : mm_O Unit) = some (.inl a, M2) := e2.symm.trans e1
      cases e3
      rw [e]
      exact mq_2_ret q
  · exact q.elim
/-- how long a letter is -/
theorem mq_llen {M N : mm_M} {q : Nat} {v2 : Int32} (hq : (M.1 42 9).toInt = q) (hq1 : q ≤ 256) (hv : v2 = M.1 42 9 + 2) : ∃ r : Int32, mf_155_L107 1 M = some (.inl r, M) ∧ mf_280_L150 v2 1 N = some (.inl r, N) ∧ 1 ≤ r.toInt ∧ r.toInt ≤ 9 := by
  have L : mq_2 mq_F (mf_155_L107 1 M) (mf_280_L150 v2 1 N) (fun r M2 b N2 => r = b ∧ M2 = M ∧ N2 = N ∧ 1 ≤ r.toInt ∧ r.toInt ≤ 9) := by
    unfold mf_155_L107 mf_280_L150
    refine mq_2_Lf (I := fun (r : Int32) M2 (b : Int32) N2 => r = b ∧ M2 = M ∧ N2 = N ∧ 1 ≤ r.toInt ∧ r.toInt ≤ 9) (m := fun a _ => (20 - a.toInt).toNat) ?_ ⟨rfl, rfl, rfl, by decide, by decide⟩
    rintro r M2 b N2 ⟨rfl, rfl, rfl, r0, r1⟩
    unfold mf_155_b107 mf_280_b150
    rw [if_pos (by rw [Int32.lt_iff_toInt_lt]; simp only [Int32.reduceToInt]; omega), hv]
    have e2 : (M2.1 42 9 + 2).toInt = q + 2 := by rw [mi_add, hq]; simp only [Int32.reduceToInt]; omega
    by_cases c : mm_shl 1 r < M2.1 42 9 + 2
    · rw [if_pos c, if_pos c]
      rw [Int32.lt_iff_toInt_lt, e2] at c
      have e1 : (r + 1).toInt = r.toInt + 1 := by rw [mi_add]; simp only [Int32.reduceToInt]; omega
      have l9 : r.toInt ≠ 9 := fun z => by
        have : r = 9 := Int32.toInt_inj.mp z
        rw [this] at c
        have e9 : (mm_shl 1 9).toInt = 512 := rfl
        omega
      exact mq_2_ret (.inl ⟨_, _, rfl, rfl, ⟨rfl, rfl, rfl, by omega, by omega⟩, by omega⟩)
    · rw [if_neg c, if_neg c]
      exact mq_2_ret (.inr ⟨_, _, rfl, rfl, rfl, rfl, rfl, r0, r1⟩)
  obtain ⟨b, N2, e, q⟩ := L
  rcases q with ⟨a, M2, e1, rfl, rfl, rfl, q⟩ | ⟨_, _, q⟩
  · exact ⟨_, e1, e, q⟩
  · exact q.elim
/-- the tables and the letters -/
theorem mq_wtabs {M N : mm_M} {q c : Nat} {v2 l : Int32} (h : mq_P M N) (f1 : M.1 5 3 = 1) (g1 : N.1 84 13 = 1) (hq : (M.1 42 9).toInt = q) (hq1 : q ≤ 256) (hv : v2 = M.1 42 9 + 2) (hl : mq_l9 M N c) (hc : c ≤ 12600) (l0 : 1 ≤ l.toInt) (l1 : l.toInt ≤ 9) (hz : mq_z N ≤ 100000000) :
    mq_2 mq_F (mm_B (mf_155_L134 l (0 : Int32) M) (fun r22 M21 => mm_B (mf_155_L187 l (0 : Int32) M21) (fun r28 M27 => (some (.inl (), M27) : mm_O Unit)))) (mm_B (mf_280_L206 v2 l (0 : Int32) N) (fun r5 M4 => mm_B (mf_280_L237 l (0 : Int32) M4) (fun r13 M12 => (some (.inl (), M12) : mm_O Unit)))) (fun _ M2 _ N2 => mq_po 1000000 M N () M2 () N2) := by
  have e2 : (M.1 42 9 + 2).toInt = q + 2 := by rw [mi_add, hq]; simp only [Int32.reduceToInt]; omega
  refine mq_2_Bf (P := fun _ M2 _ N2 => mq_po 1000 M N () M2 () N2) ?_ ?_
  · unfold mf_155_L134 mf_280_L206
    refine mq_2_Lf (I := fun (a : Int32) M2 (b : Int32) N2 => a = b ∧ 0 ≤ a.toInt ∧ a.toInt ≤ 2 ∧ mq_po (500 * a.toInt) M N () M2 () N2) (m := fun a _ => (2 - a.toInt).toNat) ?_ ⟨rfl, by decide, by decide, h, by simp only [Int32.reduceToInt]; omega, mq_kp_refl, mq_kp_refl⟩
    rintro a M2 b N2 ⟨rfl, a0, a1, hP, z2, k1, k2⟩
    unfold mf_155_b134 mf_280_b206
    by_cases d : a < 2
    · rw [if_pos d, if_pos d]
      rw [Int32.lt_iff_toInt_lt] at d
      simp only [Int32.reduceToInt] at d
      have f2 : M2.1 5 3 = 1 := by rw [(k1 5 3 rfl).1]; exact f1
      have g2 : N2.1 84 13 = 1 := by rw [(k2 84 13 rfl).1]; exact g1
      refine mq_2_Bf (mq_wbits hP (by rw [f2, g2]) g2.symm (by decide) (by simp only [Int32.reduceToInt]; omega)) ?_
      rintro _ M3 _ N3 ⟨p3, z3, k3, k4⟩
      simp only [Int32.reduceToInt] at z3
      have e9 : M3.1 42 9 = M.1 42 9 := by rw [(k3 42 9 rfl).1]; exact (k1 42 9 rfl).1
      unfold mf_155_L153
      refine mq_2_Bf (mq_zeros (M := M3) (N := N3) (n := v2) (fun x M4 q4 => by unfold mf_155_b153; rw [(q4 42 9 rfl).1, e9, hv]) p3 (by rw [(k3 5 3 rfl).1, (k4 84 13 rfl).1, f2, g2]) (by rw [hv]; omega) (by rw [hv]; omega)) ?_
      rintro _ M4 _ N4 ⟨p4, z4, k5, k6⟩
      rw [hv, e2] at z4
      have e1 : (a + 1).toInt = a.toInt + 1 := by rw [mi_add]; simp only [Int32.reduceToInt]; omega
      exact mq_2_ret (.inl ⟨_, _, rfl, rfl, ⟨rfl, by omega, by omega, p4, by omega, mq_kp_trans k1 (mq_kp_trans k3 k5), mq_kp_trans k2 (mq_kp_trans k4 k6)⟩, by omega⟩)
    · rw [if_neg d, if_neg d]
      rw [Int32.lt_iff_toInt_lt] at d
      simp only [Int32.reduceToInt] at d
      exact mq_2_ret (.inr ⟨_, _, rfl, rfl, hP, by omega, k1, k2⟩)
  · rintro _ M2 _ N2 ⟨hP, z2, k1, k2⟩
    refine mq_2_Bf (P := fun _ M3 _ N3 => mq_po 1000000 M N () M3 () N3) ?_ (fun _ _ _ _ z => mq_2_ret z)
    obtain ⟨q1, q2, q3⟩ := hl
    unfold mf_155_L187 mf_280_L237
    refine mq_2_Lf (I := fun (a : Int32) M3 (b : Int32) N3 => a = b ∧ 0 ≤ a.toInt ∧ a.toInt ≤ c ∧ mq_po (1000 + 9 * a.toInt) M N () M3 () N3) (m := fun a _ => ((c : Int) - a.toInt).toNat) ?_ ⟨rfl, by decide, by simp only [Int32.reduceToInt]; omega, hP, by simp only [Int32.reduceToInt]; omega, k1, k2⟩
    rintro a M3 b N3 ⟨rfl, a0, a1, hP3, z3, k3, k4⟩
    unfold mf_155_b187 mf_280_b237
    rw [(k3 42 15 rfl).1, (k4 84 52 rfl).1, ← q1]
    by_cases d : a < M.1 42 15
    · rw [if_pos d, if_pos d]
      rw [Int32.lt_iff_toInt_lt] at d
      have q4 := q3 a.toNatClampNeg (by rw [mq_cl]; omega)
      rw [if_pos (mq_inr (by omega) (by omega)), if_pos (mq_inr (by omega) (by omega)), (k3 48 _ rfl).1, (k4 104 _ rfl).1, ← q4]
      have f2 : M3.1 5 3 = 1 := by rw [(k3 5 3 rfl).1]; exact f1
      have g2 : N3.1 84 13 = 1 := by rw [(k4 84 13 rfl).1]; exact g1
      refine mq_2_Bf (mq_wbits hP3 (by rw [f2, g2]) g2.symm (by omega) (by omega)) ?_
      rintro _ M4 _ N4 ⟨p4, z4, k5, k6⟩
      have e1 : (a + 1).toInt = a.toInt + 1 := by rw [mi_add]; simp only [Int32.reduceToInt]; omega
      exact mq_2_ret (.inl ⟨_, _, rfl, rfl, ⟨rfl, by omega, by omega, p4, by omega, mq_kp_trans k3 k5, mq_kp_trans k4 k6⟩, by omega⟩)
    · rw [if_neg d, if_neg d]
      exact mq_2_ret (.inr ⟨_, _, rfl, rfl, hP3, by omega, k3, k4⟩)
/-- where the text's own turning stands -/
theorem mt_origin {N : mm_M} {v1 v2 : Int32} {n L i0 : Nat} {F : Nat → Int} {o r : Nat → Nat} (hn1 : n ≤ 12500) (ho : ∀ i, i < n → (N.1 105 i).toInt = o i) (hS : mt_S n (mt_T n F n) o) (hr : ∀ i, i < n → (N.1 103 i).toInt = r i) (hL : n ≤ L) (hR : mt_R n F L (fun i => (r i : Int))) (hi : i0 < n) (h0 : o i0 = 0) : ∃ w, mf_276_L87 v1 v2 0 N = some (.inl w, N) ∧ w.toInt = i0 := by
  have n0 : 0 < n := by omega
  apply mq_1_is
  unfold mf_276_L87
  refine mq_1_L (I := fun (s : Int32) M2 => M2 = N ∧ ∃ k : Nat, s.toInt = k ∧ k ≤ i0) (m := fun s _ => ((i0 : Int) + 1 - s.toInt).toNat) ?_ ⟨rfl, 0, rfl, Nat.zero_le _⟩
  rintro x M2 ⟨rfl, k, hx, hk⟩
  unfold mf_276_b87
  have nx : x.toNatClampNeg = k := by rw [mq_cl]; omega
  have ok := ho k (by omega)
  have ol := hS.1.1 k (by omega)
  have no : (M2.1 105 k).toNatClampNeg = o k := by rw [mq_cl]; omega
  have e2 : (x + 1).toInt = ((k + 1 : Nat) : Int) := by rw [mi_add]; simp only [Int32.reduceToInt]; omega
  have e0 : (0 : Int32).toNatClampNeg = 0 := rfl
  rw [if_pos (mq_inr (by omega) (by omega)), nx, if_pos (mq_inr (by omega) (by omega)), if_pos (by decide), no, e0]
  have r1 := hr (o k) ol
  have r0 := hr 0 n0
  by_cases d : M2.1 103 (o k) = M2.1 103 0
  · rw [if_pos d]
    have : k = i0 := by
      by_cases z : k < i0
      · exfalso
        have q := hS.2 k i0 z hi
        rw [h0] at q
        have eq : mt_eq n F L (o k) 0 := (mt_R_eq hR ol n0).mp (by rw [d] at r1; omega)
        rcases q with q | ⟨_, q⟩
        · exact mt_lt_ne q (mt_eq_le eq hL)
        · omega
      · omega
    exact mq_1_ret (.inr ⟨_, rfl, rfl, by omega⟩)
  · rw [if_neg d]
    have : k ≠ i0 := fun z => by
      rw [z, h0] at d
      exact d rfl
    exact mq_1_ret (.inl ⟨_, rfl, ⟨rfl, k + 1, e2, by omega⟩, by omega⟩)
