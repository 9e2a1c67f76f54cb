/-! WRITING: SORTED, the bits that tell which bytes occur -/
def mt_an (g : Nat → Nat) (i : Nat) : Nat → Nat
  | 0 => 0
  | k + 1 => if g (16 * i + k) = 1 then 1 else mt_an g i k
theorem mt_an_1 {g : Nat → Nat} {i : Nat} : ∀ {k}, mt_an g i k ≤ 1
  | 0 => Nat.zero_le _
  | k + 1 => by
    show (if g (16 * i + k) = 1 then 1 else mt_an g i k) ≤ 1
    by_cases c : g (16 * i + k) = 1
    · rw [if_pos c]; exact Nat.le_refl _
    · rw [if_neg c]; exact mt_an_1
theorem mi_or01 : (0 : Int32) ||| 1 = 1 ∧ (1 : Int32) ||| 1 = 1 ∧ (0 : Int32) ||| 0 = 0 ∧ (1 : Int32) ||| 0 = 1 := by decide
theorem mi_01 {x : Int32} {k : Nat} (h : x.toInt = k) (hk : k ≤ 1) : (k = 0 ∧ x = 0) ∨ (k = 1 ∧ x = 1) := by
  by_cases c : k = 0
  · exact .inl ⟨c, Int32.toInt_inj.mp (by rw [h, c]; rfl)⟩
  · have : k = 1 := by omega
    exact .inr ⟨this, Int32.toInt_inj.mp (by rw [h, this]; rfl)⟩
theorem mi_or1 {x : Int32} {k : Nat} (h : x.toInt = k) (hk : k ≤ 1) : (x ||| 1).toInt = 1 ∧ (x ||| 0).toInt = k := by
  rcases mi_01 h hk with ⟨rfl, rfl⟩ | ⟨rfl, rfl⟩
  · rw [mi_or01.1, mi_or01.2.2.1]; exact ⟨rfl, rfl⟩
  · rw [mi_or01.2.1, mi_or01.2.2.2]; exact ⟨rfl, rfl⟩
theorem mt_157 {M : mm_M} {v : Int32} {i n : Nat} {f : Nat → Nat} (hv : v.toInt = i) (hi : i < 16) (h : ∀ b, b < 256 → (M.1 49 b).toInt = mt_E f n b) : ∃ r, mf_157 v M = some (.inl r, M) ∧ r.toInt = mt_an (mt_oc f n) i 16 := by
  have L : mq_1 (mf_157_L4 v (0, 0) M) (fun r M2 => M2 = M ∧ r.toInt = mt_an (mt_oc f n) i 16) := by
    unfold mf_157_L4
    refine mq_1_L (I := fun (s : Int32 × Int32) M2 => M2 = M ∧ ∃ k : Nat, s.2.toInt = k ∧ k ≤ 16 ∧ s.1.toInt = mt_an (mt_oc f n) i k) (m := fun s _ => (16 - s.2.toInt).toNat) ?_ ⟨rfl, 0, rfl, by omega, rfl⟩
    rintro ⟨x, y⟩ M2 ⟨rfl, k, hy, hk, hx⟩
    dsimp only at hy hx ⊢
    unfold mf_157_b4
    by_cases c : y < 16
    · rw [if_pos c]
      rw [Int32.lt_iff_toInt_lt] at c
      simp only [Int32.reduceToInt] at c
      have e1 : (16 * v).toInt = 16 * i := by rw [mi_mul, hv]; simp only [Int32.reduceToInt]; omega
      have e2 : (16 * v + y).toInt = ((16 * i + k : Nat) : Int) := by rw [mi_add, e1]; omega
      have n2 : (16 * v + y).toNatClampNeg = 16 * i + k := by rw [mq_cl]; omega
      have e3 : (y + 1).toInt = ((k + 1 : Nat) : Int) := by rw [mi_add]; simp only [Int32.reduceToInt]; omega
      rw [if_pos (mq_inr (by omega) (by omega)), n2]
      have hb := h (16 * i + k) (by omega)
      have ho := mi_or1 hx mt_an_1
      have es : mt_an (mt_oc f n) i (k + 1) = if mt_oc f n (16 * i + k) = 1 then 1 else mt_an (mt_oc f n) i k := rfl
      by_cases d : 0 < M2.1 49 (16 * i + k)
      · rw [if_pos d]
        rw [Int32.lt_iff_toInt_lt, hb] at d
        simp only [Int32.reduceToInt] at d
        have o1 : mt_oc f n (16 * i + k) = 1 := by unfold mt_oc; rw [if_pos (by omega)]
        rw [if_pos o1] at es
        exact mq_1_ret (.inl ⟨_, rfl, ⟨rfl, k + 1, e3, by omega, by rw [es]; exact ho.1⟩, by dsimp only; omega⟩)
      · rw [if_neg d]
        rw [Int32.lt_iff_toInt_lt, hb] at d
        simp only [Int32.reduceToInt] at d
        have o1 : ¬ mt_oc f n (16 * i + k) = 1 := by unfold mt_oc; rw [if_neg (by omega)]; omega
        rw [if_neg o1] at es
        exact mq_1_ret (.inl ⟨_, rfl, ⟨rfl, k + 1, e3, by omega, by rw [es]; exact ho.2⟩, by dsimp only; omega⟩)
    · rw [if_neg c]
      rw [Int32.lt_iff_toInt_lt] at c
      simp only [Int32.reduceToInt] at c
      have : k = 16 := by omega
      subst this
      exact mq_1_ret (.inr ⟨_, rfl, rfl, hx⟩)
  obtain ⟨r, er, hr⟩ := mq_1_is L
  refine ⟨r, ?_, hr⟩
  unfold mf_157
  rw [er, mq_Bs]
  rcases mi_01 hr mt_an_1 with ⟨_, rfl⟩ | ⟨_, rfl⟩
  · rfl
  · rfl
theorem mt_L110 {N : mm_M} {v : Int32} {i n : Nat} {f : Nat → Nat} (hv : v.toInt = i) (hi : i < 16) (h : ∀ b, b < 256 → (N.1 104 b).toInt = mt_oc f n b) : ∃ r, mf_277_L110 v (0, 0) N = some (.inl r, N) ∧ r.toInt = mt_an (mt_oc f n) i 16 := by
  apply mq_1_is
  unfold mf_277_L110
  refine mq_1_L (I := fun (s : Int32 × Int32) M2 => M2 = N ∧ ∃ k : Nat, s.2.toInt = k ∧ k ≤ 16 ∧ s.1.toInt = mt_an (mt_oc f n) i k) (m := fun s _ => (16 - s.2.toInt).toNat) ?_ ⟨rfl, 0, rfl, by omega, rfl⟩
  rintro ⟨x, y⟩ M2 ⟨rfl, k, hy, hk, hx⟩
  dsimp only at hy hx ⊢
  unfold mf_277_b110
  by_cases c : y < 16
  · rw [if_pos c]
    rw [Int32.lt_iff_toInt_lt] at c
    simp only [Int32.reduceToInt] at c
    have e1 : (16 * v).toInt = 16 * i := by rw [mi_mul, hv]; simp only [Int32.reduceToInt]; omega
    have e2 : (16 * v + y).toInt = ((16 * i + k : Nat) : Int) := by rw [mi_add, e1]; omega
    have n2 : (16 * v + y).toNatClampNeg = 16 * i + k := by rw [mq_cl]; omega
    have e3 : (y + 1).toInt = ((k + 1 : Nat) : Int) := by rw [mi_add]; simp only [Int32.reduceToInt]; omega
    rw [if_pos (mq_inr (by omega) (by omega)), n2]
    have hb := h (16 * i + k) (by omega)
    have ho := mi_or1 hx mt_an_1
    have es : mt_an (mt_oc f n) i (k + 1) = if mt_oc f n (16 * i + k) = 1 then 1 else mt_an (mt_oc f n) i k := rfl
    refine mq_1_ret (.inl ⟨_, rfl, ⟨rfl, k + 1, e3, by omega, ?_⟩, by dsimp only; omega⟩)
    dsimp only
    rcases mi_01 hb mt_oc_1 with ⟨o1, e4⟩ | ⟨o1, e4⟩
    · rw [e4, es, if_neg (by omega)]; exact ho.2
    · rw [e4, es, if_pos o1]; exact ho.1
  · rw [if_neg c]
    rw [Int32.lt_iff_toInt_lt] at c
    simp only [Int32.reduceToInt] at c
    have : k = 16 := by omega
    subst this
    exact mq_1_ret (.inr ⟨_, rfl, rfl, hx⟩)
/-- what stands while the flags are written -/
def mq_oi (f : Nat → Nat) (n : Nat) (M N : mm_M) : Prop := mq_P M N ∧ M.1 5 3 = 1 ∧ N.1 84 13 = 1 ∧ (∀ b, b < 256 → (M.1 49 b).toInt = mt_E f n b) ∧ ∀ b, b < 256 → (N.1 104 b).toInt = mt_oc f n b
theorem mq_oi_kp {f : Nat → Nat} {n : Nat} {M N M2 N2 : mm_M} {w w2 : List (Nat × Option Nat)} (h : mq_oi f n M N) (p : mq_P M2 N2) (k1 : mq_kp w M M2) (k2 : mq_kp w2 N N2) (h1 : mq_ws w 5 3 = false) (h2 : mq_ws w2 84 13 = false) (h3 : ∀ j, mq_ws w 49 j = false) (h4 : ∀ j, mq_ws w2 104 j = false) : mq_oi f n M2 N2 := by
  obtain ⟨_, a2, a3, a4, a5⟩ := h
  exact ⟨p, by rw [(k1 5 3 h1).1]; exact a2, by rw [(k2 84 13 h2).1]; exact a3, fun b hb => by rw [(k1 49 b (h3 b)).1]; exact a4 b hb, fun b hb => by rw [(k2 104 b (h4 b)).1]; exact a5 b hb⟩
theorem mq_o16 {f : Nat → Nat} {n : Nat} {M N : mm_M} (h : mq_oi f n M N) (hz : mq_z N ≤ 900000000) : mq_2 mq_F (mf_156_L2 0 M) (mf_277_L99 0 N) (fun _ M2 _ N2 => mq_oi f n M2 N2 ∧ mq_z N2 ≤ mq_z N + 16 ∧ (∀ i, i < 16 → (N2.1 106 i).toInt = mt_an (mt_oc f n) i 16) ∧ mq_kp mq_wM M M2 ∧ mq_kp [(84, some 41), (84, some 42), (84, some 43), (100, none), (106, none)] N N2) := by
  unfold mf_156_L2 mf_277_L99
  refine mq_2_Lf (I := fun (a : Int32) M2 (b : Int32) N2 => a = b ∧ ∃ i : Nat, a.toInt = i ∧ i ≤ 16 ∧ mq_oi f n M2 N2 ∧ mq_z N2 ≤ mq_z N + i ∧ (∀ j, j < i → (N2.1 106 j).toInt = mt_an (mt_oc f n) j 16) ∧ mq_kp mq_wM M M2 ∧ mq_kp [(84, some 41), (84, some 42), (84, some 43), (100, none), (106, none)] N N2) (m := fun a _ => (16 - a.toInt).toNat) ?_ ⟨rfl, 0, rfl, by omega, h, by omega, fun j hj => absurd hj (Nat.not_lt_zero _), mq_kp_refl, mq_kp_refl⟩
  rintro a M2 b N2 ⟨rfl, i, ha, hi, ho, z2, h6, k1, k2⟩
  unfold mf_156_b2 mf_277_b99
  by_cases c : a < 16
  · rw [if_pos c, if_pos c]
    rw [Int32.lt_iff_toInt_lt] at c
    simp only [Int32.reduceToInt] at c
    obtain ⟨r, x1, x2⟩ := mt_157 (M := M2) ha (by omega) ho.2.2.2.1
    obtain ⟨r', y1, y2⟩ := mt_L110 (N := N2) ha (by omega) ho.2.2.2.2
    have er : r' = r := Int32.toInt_inj.mp (by rw [x2, y2])
    subst er
    rw [x1, y1, mq_Bs, mq_Bs]
    have e1 : (a + 1).toInt = ((i + 1 : Nat) : Int) := by rw [mi_add]; simp only [Int32.reduceToInt]; omega
    have na : a.toNatClampNeg = i := by rw [mq_cl]; omega
    have cl : (if r' = 0 then mf_156_j25 a 0 M2 else mf_156_j25 a 1 M2) = mf_156_j25 a r' M2 := by
      rcases mi_01 x2 mt_an_1 with ⟨_, rfl⟩ | ⟨_, rfl⟩
      · rfl
      · rfl
    rw [cl]
    unfold mf_156_j25 mf_277_j138
    have hb : r' = 0 ∨ r' = 1 := by
      rcases mi_01 x2 mt_an_1 with ⟨_, q⟩ | ⟨_, q⟩
      · exact .inl q
      · exact .inr q
    refine mq_2_Bf (mq_wbit ho.1 (by rw [ho.2.1, ho.2.2.1]) (by omega) hb) ?_
    rintro _ M3 _ N3 ⟨⟨p3, z3, k3, k4⟩, _⟩
    rw [if_pos (mq_inr (by omega) (by omega)), na]
    have k5 : mq_kp [(84, some 41), (84, some 42), (84, some 43), (100, none), (106, none)] N2 (mm_pi N3 106 i r') := mq_kp_pi (mq_kp_sub k4 rfl) rfl
    refine mq_2_ret (.inl ⟨_, _, rfl, rfl, ⟨rfl, i + 1, e1, by omega, mq_oi_kp ho p3 k3 k5 rfl rfl (fun _ => rfl) (fun _ => rfl), ?_, fun j hj => ?_, mq_kp_trans k1 k3, mq_kp_trans k2 k5⟩, by omega⟩)
    · show mq_z N3 ≤ _
      omega
    · by_cases q : j = i
      · rw [q, mq_ps]; exact x2
      · rw [mq_pj q, (k4 106 j rfl).1]
        exact h6 j (by omega)
  · rw [if_neg c, if_neg c]
    rw [Int32.lt_iff_toInt_lt] at c
    simp only [Int32.reduceToInt] at c
    have : i = 16 := by omega
    subst this
    exact mq_2_ret (.inr ⟨_, _, rfl, rfl, ho, by omega, h6, k1, k2⟩)
/-- sixteen flags, one by one -/
theorem mq_o1 {f : Nat → Nat} {n i : Nat} {vi : Int32} (hv : vi.toInt = i) (hi : i < 16) : ∀ (m j : Nat) (vj vb : Int32) (M N : mm_M), j + m = 16 → vj.toInt = j → vb.toInt = ((16 * i + j : Nat) : Int) → mq_oi f n M N → (N.1 106 i).toInt = 1 → mt_an (mt_oc f n) i 16 = 1 → mq_z N + m ≤ 900000000 → ∃ M2 N2 vc, mf_156_L44 vi vj M = some (.inl (), M2) ∧ vc.toInt = ((16 * i + 16 : Nat) : Int) ∧ mf_277_L158 vb N = mf_277_L158 vc N2 ∧ mq_oi f n M2 N2 ∧ mq_z N2 ≤ mq_z N + m ∧ mq_kp mq_wM M M2 ∧ mq_kp mq_wN N N2 := by
  intro m
  induction m with
  | zero =>
    intro j vj vb M N jm hj hb ho _ _ _
    refine ⟨M, N, vb, ?_, by rw [hb]; omega, rfl, ho, by omega, mq_kp_refl, mq_kp_refl⟩
    have e2 : mf_156_L44 vi vj M = mm_B (mf_156_b44 vi vj M) (mm_nx (mm_L (fun s M => mf_156_b44 vi s M))) := mm_L_eq _ _ _
    rw [e2]
    unfold mf_156_b44
    rw [if_neg (by rw [Int32.lt_iff_toInt_lt]; simp only [Int32.reduceToInt]; omega)]
    rfl
  | succ m ih =>
    intro j vj vb M N jm hj hb ho h6 ha hz
    obtain ⟨r, x1, x2⟩ := mt_157 (M := M) hv hi ho.2.2.2.1
    have r1 : r = 1 := Int32.toInt_inj.mp (by rw [x2, ha]; rfl)
    subst r1
    have e1 : (16 * vi).toInt = 16 * i := by rw [mi_mul, hv]; simp only [Int32.reduceToInt]; omega
    have e3 : (16 * vi + vj).toInt = ((16 * i + j : Nat) : Int) := by rw [mi_add, e1]; omega
    have n3 : (16 * vi + vj).toNatClampNeg = 16 * i + j := by rw [mq_cl]; omega
    have nb : vb.toNatClampNeg = 16 * i + j := by rw [mq_cl]; omega
    have ed : (vb / 16).toInt = i := by rw [mi_div (by omega) (by decide), hb]; simp only [Int32.reduceToInt]; omega
    have nd : (vb / 16).toNatClampNeg = i := by rw [mq_cl]; omega
    have hc := ho.2.2.2.1 (16 * i + j) (by omega)
    have hd := ho.2.2.2.2 (16 * i + j) (by omega)
    have i1 : N.1 106 i = 1 := Int32.toInt_inj.mp (by rw [h6]; rfl)
    obtain ⟨b, hbit, hcb, hrb⟩ : ∃ b : Int32, (b = 0 ∨ b = 1) ∧ (if 0 < M.1 49 (16 * i + j) then mf_156_j81 vi vj 1 M else mf_156_j81 vi vj 0 M) = mf_156_j81 vi vj b M ∧ N.1 104 (16 * i + j) = b := by
      rcases mi_01 hd mt_oc_1 with ⟨o1, e4⟩ | ⟨o1, e4⟩
      · refine ⟨0, .inl rfl, ?_, e4⟩
        rw [if_neg]
        rw [Int32.lt_iff_toInt_lt, hc]
        simp only [Int32.reduceToInt]
        intro q
        unfold mt_oc at o1
        rw [if_pos (by omega)] at o1
        omega
      · refine ⟨1, .inr rfl, ?_, e4⟩
        rw [if_pos]
        rw [Int32.lt_iff_toInt_lt, hc]
        simp only [Int32.reduceToInt]
        unfold mt_oc at o1
        by_cases q : 0 < mt_E f n (16 * i + j)
        · omega
        · rw [if_neg q] at o1; omega
    have xb : mf_156_b44 vi vj M = mf_156_j81 vi vj b M := by
      unfold mf_156_b44
      rw [if_pos (by rw [Int32.lt_iff_toInt_lt]; simp only [Int32.reduceToInt]; omega), x1, mq_Bs, if_neg (by decide), if_pos (mq_inr (by omega) (by omega)), n3, hcb]
    have yb : mf_277_b158 vb N = mm_B (mf_247 b N) (fun _ M1 => some (.inl (.inl (vb + (1 : Int32))), M1)) := by
      unfold mf_277_b158
      rw [if_pos (by rw [Int32.lt_iff_toInt_lt]; simp only [Int32.reduceToInt]; omega), if_pos (mq_inr (by omega) (by omega)), nd, if_pos i1, if_pos (mq_inr (by omega) (by omega)), nb, hrb]
    obtain ⟨_, N3, y3, q⟩ := mq_wbit (b := b) ho.1 (by rw [ho.2.1, ho.2.2.1]) (by omega) hbit
    rcases q with ⟨_, M3, x3, ⟨p3, z3, k3, k4⟩, z4⟩ | ⟨_, _, q⟩
    · have ej : (vj + 1).toInt = ((j + 1 : Nat) : Int) := by rw [mi_add]; simp only [Int32.reduceToInt]; omega
      have eb : (vb + 1).toInt = ((16 * i + (j + 1) : Nat) : Int) := by rw [mi_add, hb]; simp only [Int32.reduceToInt]; omega
      obtain ⟨M4, N4, vc, w1, w2, w3, w4, w5, w6, w7⟩ := ih (j + 1) (vj + 1) (vb + 1) M3 N3 (by omega) ej eb (mq_oi_kp ho p3 k3 k4 rfl rfl (fun _ => rfl) (fun _ => rfl)) (by rw [(k4 106 i rfl).1]; exact h6) ha (by omega)
      refine ⟨M4, N4, vc, ?_, w2, ?_, w4, by omega, mq_kp_trans k3 w6, mq_kp_trans k4 w7⟩
      · have e2 : mf_156_L44 vi vj M = mm_B (mf_156_b44 vi vj M) (mm_nx (mm_L (fun s M => mf_156_b44 vi s M))) := mm_L_eq _ _ _
        rw [e2, xb]
        unfold mf_156_j81
        rw [x3, mq_Bs]
        exact w1
      · have e2 : mf_277_L158 vb N = mm_B (mf_277_b158 vb N) (mm_nx (mm_L (fun s M => mf_277_b158 s M))) := mm_L_eq _ _ _
        rw [e2, yb, y3, mq_Bs]
        exact w3
    · exact q.elim
/-- none of sixteen -/
theorem mq_o0 {i : Nat} {N : mm_M} (hi : i < 16) (h6 : (N.1 106 i).toInt = 0) : ∀ (m j : Nat) (vb : Int32), j + m = 16 → vb.toInt = ((16 * i + j : Nat) : Int) → ∃ vc, vc.toInt = ((16 * i + 16 : Nat) : Int) ∧ mf_277_L158 vb N = mf_277_L158 vc N := by
  intro m
  induction m with
  | zero => intro j vb jm hb; exact ⟨vb, by rw [hb]; omega, rfl⟩
  | succ m ih =>
    intro j vb jm hb
    have ed : (vb / 16).toInt = i := by rw [mi_div (by omega) (by decide), hb]; simp only [Int32.reduceToInt]; omega
    have nd : (vb / 16).toNatClampNeg = i := by rw [mq_cl]; omega
    have i1 : ¬ N.1 106 i = 1 := fun q => by rw [q] at h6; simp only [Int32.reduceToInt] at h6; omega
    have eb : (vb + 1).toInt = ((16 * i + (j + 1) : Nat) : Int) := by rw [mi_add, hb]; simp only [Int32.reduceToInt]; omega
    obtain ⟨vc, w1, w2⟩ := ih (j + 1) (vb + 1) (by omega) eb
    refine ⟨vc, w1, ?_⟩
    have e2 : mf_277_L158 vb N = mm_B (mf_277_b158 vb N) (mm_nx (mm_L (fun s M => mf_277_b158 s M))) := mm_L_eq _ _ _
    rw [e2]
    unfold mf_277_b158
    rw [if_pos (by rw [Int32.lt_iff_toInt_lt]; simp only [Int32.reduceToInt]; omega), if_pos (mq_inr (by omega) (by omega)), nd, if_neg i1]
    exact w2
theorem mq_o256 {f : Nat → Nat} {n : Nat} : ∀ (m i : Nat) (vi vb : Int32) (M N : mm_M), i + m = 16 → vi.toInt = i → vb.toInt = ((16 * i : Nat) : Int) → mq_oi f n M N → (∀ k, k < 16 → (N.1 106 k).toInt = mt_an (mt_oc f n) k 16) → mq_z N ≤ 900000000 - 16 * m → ∃ M2 N2, mf_156_L36 vi M = some (.inl (), M2) ∧ mf_277_L158 vb N = some (.inl (), N2) ∧ mq_oi f n M2 N2 ∧ mq_z N2 ≤ mq_z N + 16 * m ∧ mq_kp mq_wM M M2 ∧ mq_kp mq_wN N N2 := by
  intro m
  induction m with
  | zero =>
    intro i vi vb M N im hv hb ho _ _
    refine ⟨M, N, ?_, ?_, ho, by omega, mq_kp_refl, mq_kp_refl⟩
    · have e2 : mf_156_L36 vi M = mm_B (mf_156_b36 vi M) (mm_nx (mm_L (fun s M => mf_156_b36 s M))) := mm_L_eq _ _ _
      rw [e2]
      unfold mf_156_b36
      rw [if_neg (by rw [Int32.lt_iff_toInt_lt]; simp only [Int32.reduceToInt]; omega)]
      rfl
    · have e2 : mf_277_L158 vb N = mm_B (mf_277_b158 vb N) (mm_nx (mm_L (fun s M => mf_277_b158 s M))) := mm_L_eq _ _ _
      rw [e2]
      unfold mf_277_b158
      rw [if_neg (by rw [Int32.lt_iff_toInt_lt]; simp only [Int32.reduceToInt]; omega)]
      rfl
  | succ m ih =>
    intro i vi vb M N im hv hb ho h6 hz
    have e1 : (vi + 1).toInt = ((i + 1 : Nat) : Int) := by rw [mi_add]; simp only [Int32.reduceToInt]; omega
    have e2 : mf_156_L36 vi M = mm_B (mf_156_b36 vi M) (mm_nx (mm_L (fun s M => mf_156_b36 s M))) := mm_L_eq _ _ _
    have e3 : mf_156_b36 vi M = mm_B (mf_156_L44 vi (0 : Int32) M) (fun r2 M1 => some (.inl (.inl (vi + (1 : Int32))), M1)) := by
      unfold mf_156_b36
      rw [if_pos (by rw [Int32.lt_iff_toInt_lt]; simp only [Int32.reduceToInt]; omega)]
    have h6i := h6 i (by omega)
    by_cases c : mt_an (mt_oc f n) i 16 = 1
    · obtain ⟨M3, N3, vc, w1, w2, w3, w4, w5, w6, w7⟩ := mq_o1 (f := f) (n := n) hv (by omega) 16 0 0 vb M N rfl rfl hb ho (by rw [h6i, c]; rfl) c (by omega)
      obtain ⟨M4, N4, q1, q2, q3, q4, q5, q6⟩ := ih (i + 1) (vi + 1) vc M3 N3 (by omega) e1 (by rw [w2]; omega) w4 (fun k hk => by rw [(w7 106 k rfl).1]; exact h6 k hk) (by omega)
      refine ⟨M4, N4, ?_, by rw [w3]; exact q2, q3, by omega, mq_kp_trans w6 q5, mq_kp_trans w7 q6⟩
      rw [e2, e3, w1, mq_Bs, mq_Bs]
      exact q1
    · have a0 : mt_an (mt_oc f n) i 16 = 0 := by
        have := mt_an_1 (g := mt_oc f n) (i := i) (k := 16)
        omega
      obtain ⟨vc, w2, w3⟩ := mq_o0 (N := N) (i := i) (by omega) (by rw [h6i, a0]; rfl) 16 0 vb rfl hb
      obtain ⟨M4, N4, q1, q2, q3, q4, q5, q6⟩ := ih (i + 1) (vi + 1) vc M N (by omega) e1 (by rw [w2]; omega) ho h6 (by omega)
      refine ⟨M4, N4, ?_, by rw [w3]; exact q2, q3, by omega, q5, q6⟩
      have e5 : mf_156_L44 vi 0 M = some (.inl (), M) := by
        have e4 : mf_156_L44 vi 0 M = mm_B (mf_156_b44 vi 0 M) (mm_nx (mm_L (fun s M => mf_156_b44 vi s M))) := mm_L_eq _ _ _
        rw [e4]
        unfold mf_156_b44
        obtain ⟨r, x1, x2⟩ := mt_157 (M := M) hv (by omega) ho.2.2.2.1
        have r0 : r = 0 := Int32.toInt_inj.mp (by rw [x2, a0]; rfl)
        subst r0
        rw [if_pos (by decide), x1, mq_Bs, if_pos rfl]
        rfl
      rw [e2, e3, e5, mq_Bs, mq_Bs]
      exact q1
