/-! WRITING: SORTED, the letters -/
def mq_l9 (M N : mm_M) (c : Nat) : Prop := M.1 42 15 = N.1 84 52 ∧ (M.1 42 15).toInt = c ∧ ∀ j, j < c → M.1 48 j = N.1 104 j
theorem mq_lpush {M N : mm_M} {c : Nat} {x : Int32} (h : mq_l9 M N c) (hc : c < 12600) : ∃ M2 N2, mf_153 x M = some (.inl (), M2) ∧ mf_278 x N = some (.inl (), N2) ∧ mq_l9 M2 N2 (c + 1) ∧ mq_kp [(42, some 15), (48, none)] M M2 ∧ mq_kp [(84, some 52), (104, none)] N N2 := by
  obtain ⟨h1, h2, h3⟩ := h
  have n1 : (M.1 42 15).toNatClampNeg = c := by rw [mq_cl]; omega
  have x1 : mf_153 x M = some (.inl (), (mm_pi (mm_pi M 48 c x) 42 15 (M.1 42 15 + 1))) := by
    unfold mf_153
    rw [if_pos (by rw [Int32.lt_iff_toInt_lt]; simp only [Int32.reduceToInt]; omega), if_pos (mq_inr (by omega) (by omega)), n1]
  have y1 : mf_278 x N = some (.inl (), (mm_pi (mm_pi N 104 c x) 84 52 (M.1 42 15 + 1))) := by
    unfold mf_278
    rw [← h1, if_pos (mq_inr (by omega) (by omega)), n1]
  refine ⟨_, _, x1, y1, ⟨rfl, ?_, fun j hj => ?_⟩, mq_kp_pi (mq_kp_pi mq_kp_refl rfl) rfl, mq_kp_pi (mq_kp_pi mq_kp_refl rfl) rfl⟩
  · show (M.1 42 15 + 1).toInt = _
    rw [mi_add, h2]
    simp only [Int32.reduceToInt]
    omega
  · show (mm_pi M 48 c x).1 48 j = (mm_pi N 104 c x).1 104 j
    by_cases q : j = c
    · rw [q, mq_ps, mq_ps]
    · rw [mq_pj q, mq_pj q]; exact h3 j (by omega)
/-- a run's letters -/
theorem mq_lrun {M N : mm_M} {c r : Nat} {v : Int32} (h : mq_l9 M N c) (hr : M.1 42 16 = v) (hv : v.toInt = r) (hc : c + r ≤ 12600) : mq_2 mq_F (mf_154 M) (mf_279 v N) (fun _ M2 _ N2 => M2.1 42 16 = 0 ∧ (∃ c2, c2 ≤ c + r ∧ c ≤ c2 ∧ mq_l9 M2 N2 c2) ∧ mq_kp [(42, some 15), (42, some 16), (48, none)] M M2 ∧ mq_kp [(84, some 52), (104, none)] N N2) := by
  unfold mf_154 mf_279
  refine mq_2_Bf (P := fun _ M2 _ N2 => M2.1 42 16 = 0 ∧ (∃ c2, c2 ≤ c + r ∧ c ≤ c2 ∧ mq_l9 M2 N2 c2) ∧ mq_kp [(42, some 15), (42, some 16), (48, none)] M M2 ∧ mq_kp [(84, some 52), (104, none)] N N2) ?_ (fun _ _ _ _ q => mq_2_ret q)
  unfold mf_154_L0 mf_279_L2
  refine mq_2_Lf (I := fun (_ : Unit) M2 (b : Int32) N2 => M2.1 42 16 = b ∧ (∃ c2 s : Nat, b.toInt = s ∧ c2 + s ≤ c + r ∧ c ≤ c2 ∧ mq_l9 M2 N2 c2) ∧ mq_kp [(42, some 15), (42, some 16), (48, none)] M M2 ∧ mq_kp [(84, some 52), (104, none)] N N2) (m := fun _ M2 => (M2.1 42 16).toInt.toNat) ?_ ⟨hr, ⟨c, r, hv, Nat.le_refl _, Nat.le_refl _, h⟩, mq_kp_refl, mq_kp_refl⟩
  rintro _ M2 b N2 ⟨h16, ⟨c2, s, hs, h1, h2, hl⟩, k1, k2⟩
  unfold mf_154_b0 mf_279_b2
  rw [h16]
  by_cases d : 0 < b
  · rw [if_pos d, if_pos d]
    rw [Int32.lt_iff_toInt_lt] at d
    simp only [Int32.reduceToInt] at d
    have er : (mm_rem b 2).toInt = b.toInt % 2 := by rw [mi_rem (by omega) (by decide)]; rfl
    have e1 : (b - 1).toInt = b.toInt - 1 := by rw [mi_sub]; simp only [Int32.reduceToInt]; omega
    have e2 : ((b - 1) / 2).toInt = (b.toInt - 1) / 2 := by rw [mi_div (by omega) (by decide), e1]; rfl
    have st : ∀ s0 x : Int32, x = s0 - 1 → ((b - s0) / 2) = (b - 1) / 2 → mq_2 mq_F (mf_154_j22 s0 M2) (mm_B (mf_278 x N2) (fun _ M1 => (some (.inl (.inl ((b - (1 : Int32)) / (2 : Int32))), M1) : mm_O (Int32 ⊕ Unit)))) (fun r2 M3 t N3 => (∃ a2 b2, r2 = .inl a2 ∧ t = .inl b2 ∧ (M3.1 42 16 = b2 ∧ (∃ c2 s : Nat, b2.toInt = s ∧ c2 + s ≤ c + r ∧ c ≤ c2 ∧ mq_l9 M3 N3 c2) ∧ mq_kp [(42, some 15), (42, some 16), (48, none)] M M3 ∧ mq_kp [(84, some 52), (104, none)] N N3) ∧ (M3.1 42 16).toInt.toNat < b.toInt.toNat) ∨ (∃ u w, r2 = .inr u ∧ t = .inr w ∧ M3.1 42 16 = 0 ∧ (∃ c2, c2 ≤ c + r ∧ c ≤ c2 ∧ mq_l9 M3 N3 c2) ∧ mq_kp [(42, some 15), (42, some 16), (48, none)] M M3 ∧ mq_kp [(84, some 52), (104, none)] N N3)) := by
      intro s0 x hx hq
      subst hx
      unfold mf_154_j22
      obtain ⟨M3, N3, x3, y3, l3, k3, k4⟩ := mq_lpush (x := s0 - 1) hl (by omega)
      rw [x3, y3, mq_Bs, mq_Bs, (k3 42 16 rfl).1, h16, hq]
      refine mq_2_ret (.inl ⟨_, _, rfl, rfl, ⟨rfl, ⟨c2 + 1, (s - 1) / 2, by rw [e2, hs]; omega, by omega, by omega, l3⟩, mq_kp_pi (mq_kp_trans k1 (mq_kp_sub k3 rfl)) rfl, mq_kp_trans k2 k4⟩, ?_⟩)
      show ((b - 1) / 2).toInt.toNat < b.toInt.toNat
      rw [e2]
      omega
    by_cases o : mm_rem b 2 = 1
    · rw [if_pos o, o]
      exact st 1 (1 - 1) rfl rfl
    · rw [if_neg o]
      have o2 : b.toInt % 2 = 0 := by
        have : (mm_rem b 2).toInt ≠ 1 := fun q => o (Int32.toInt_inj.mp q)
        omega
      have o3 : mm_rem b 2 = 0 := Int32.toInt_inj.mp (by rw [er, o2]; rfl)
      rw [o3]
      have e3 : (b - 2).toInt = b.toInt - 2 := by rw [mi_sub]; simp only [Int32.reduceToInt]; omega
      exact st 2 (1 - 0) (by decide) (Int32.toInt_inj.mp (by rw [e2, mi_div (by omega) (by decide), e3]; simp only [Int32.reduceToInt]; omega))
  · rw [if_neg d, if_neg d]
    rw [Int32.lt_iff_toInt_lt] at d
    simp only [Int32.reduceToInt] at d
    have b0 : b = 0 := Int32.toInt_inj.mp (by simp only [Int32.reduceToInt]; omega)
    exact mq_2_ret (.inr ⟨_, _, rfl, rfl, by rw [h16]; exact b0, ⟨c2, by omega, h2, hl⟩, k1, k2⟩)
/-- the first place of a byte -/
def mt_fi (a : Nat → Int32) (b : Int32) (j : Nat) : Prop := a j = b ∧ ∀ i, i < j → a i ≠ b
theorem mt_fi_u {a : Nat → Int32} {b : Int32} {i j : Nat} (h : mt_fi a b i) (g : mt_fi a b j) : i = j := by
  rcases Nat.lt_trichotomy i j with c | c | c
  · exact absurd h.1 (g.2 i c)
  · exact c
  · exact absurd g.1 (h.2 j c)
theorem mt_fi_e {a : Nat → Int32} {b : Int32} : ∀ {q : Nat}, (∃ j, j < q ∧ a j = b) → ∃ j, j < q ∧ mt_fi a b j
  | 0, ⟨j, h, _⟩ => by omega
  | q + 1, ⟨j, h, e⟩ => by
    by_cases c : ∃ j, j < q ∧ a j = b
    · obtain ⟨i, i1, i2⟩ := mt_fi_e c
      exact ⟨i, by omega, i2⟩
    · refine ⟨j, h, e, fun i hi z => c ⟨i, by omega, z⟩⟩
theorem mt_152 {M : mm_M} {b : Int32} {q j : Nat} (hq : (M.1 42 9).toInt = q) (hq1 : q ≤ 256) (hj : j < q) (h : mt_fi (M.1 46) b j) : ∃ r, mf_152 b M = some (.inl r, M) ∧ r.toInt = j := by
  apply mq_1_is
  unfold mf_152
  refine mq_1_B (P := fun (r : Int32) M2 => M2 = M ∧ r.toInt = j) ?_ (fun _ _ z => mq_1_ret z)
  unfold mf_152_L2
  refine mq_1_L (I := fun (s : Int32) M2 => M2 = M ∧ ∃ k : Nat, s.toInt = k ∧ k ≤ j) (m := fun s _ => ((q : Int) - s.toInt).toNat) ?_ ⟨rfl, 0, rfl, Nat.zero_le _⟩
  rintro x M2 ⟨rfl, k, hx, hk⟩
  unfold mf_152_b2
  have e1 : (M2.1 42 9 - 1).toInt = (q : Int) - 1 := by rw [mi_sub, hq]; simp only [Int32.reduceToInt]; omega
  have nx : x.toNatClampNeg = k := by rw [mq_cl]; omega
  have e2 : (x + 1).toInt = ((k + 1 : Nat) : Int) := by rw [mi_add]; simp only [Int32.reduceToInt]; omega
  by_cases c : x < M2.1 42 9 - 1
  · rw [if_pos c, if_pos (mq_inr (by omega) (by omega)), nx]
    rw [Int32.lt_iff_toInt_lt, e1] at c
    by_cases d : M2.1 46 k = b
    · rw [if_pos d]
      have : k = j := by
        by_cases z : k < j
        · exact absurd d (h.2 k z)
        · omega
      exact mq_1_ret (.inr ⟨_, rfl, rfl, by omega⟩)
    · rw [if_neg d]
      have : k ≠ j := fun z => d (by rw [z]; exact h.1)
      exact mq_1_ret (.inl ⟨_, rfl, ⟨rfl, k + 1, e2, by omega⟩, by omega⟩)
  · rw [if_neg c]
    rw [Int32.lt_iff_toInt_lt, e1] at c
    exact mq_1_ret (.inr ⟨_, rfl, rfl, by omega⟩)
theorem mt_L46 {N : mm_M} {v1 v2 v3 v4 b : Int32} {j : Nat} (hj : j < 256) (h : mt_fi (N.1 94) b j) : ∃ r, mf_280_L46 v1 v2 v3 v4 b 0 N = some (.inl r, N) ∧ r.toInt = j := by
  apply mq_1_is
  unfold mf_280_L46
  refine mq_1_L (I := fun (s : Int32) M2 => M2 = N ∧ ∃ k : Nat, s.toInt = k ∧ k ≤ j) (m := fun s _ => ((j : Int) + 1 - s.toInt).toNat) ?_ ⟨rfl, 0, rfl, Nat.zero_le _⟩
  rintro x M2 ⟨rfl, k, hx, hk⟩
  unfold mf_280_b46
  have nx : x.toNatClampNeg = k := by rw [mq_cl]; omega
  have e2 : (x + 1).toInt = ((k + 1 : Nat) : Int) := by rw [mi_add]; simp only [Int32.reduceToInt]; omega
  rw [if_pos (mq_inr (by omega) (by omega)), nx]
  by_cases d : M2.1 94 k = b
  · rw [if_pos d]
    have : k = j := by
      by_cases z : k < j
      · exact absurd d (h.2 k z)
      · omega
    exact mq_1_ret (.inr ⟨_, rfl, rfl, by omega⟩)
  · rw [if_neg d]
    have : k ≠ j := fun z => d (by rw [z]; exact h.1)
    exact mq_1_ret (.inl ⟨_, rfl, ⟨rfl, k + 1, e2, by omega⟩, by omega⟩)
/-- it goes to the front -/
def mt_mv (a a2 : Nat → Int32) (b : Int32) (j : Nat) : Prop := a2 0 = b ∧ (∀ i, 1 ≤ i → i ≤ j → a2 i = a (i - 1)) ∧ ∀ i, j < i → a2 i = a i
theorem mt_141 {M : mm_M} {v : Int32} {j : Nat} (hv : v.toInt = j) (hj : j < 256) : ∃ M2, mf_141 46 256 v M = some (.inl (), M2) ∧ mt_mv (M.1 46) (M2.1 46) (M.1 46 j) j ∧ mq_kp [(46, none)] M M2 := by
  have nv : v.toNatClampNeg = j := by rw [mq_cl]; omega
  have L : mq_1 (mf_141_L17 46 256 (M.1 46 j) v M) (fun _ M2 => (∀ i, 1 ≤ i → i ≤ j → M2.1 46 i = M.1 46 (i - 1)) ∧ (∀ i, j < i → M2.1 46 i = M.1 46 i) ∧ mq_kp [(46, none)] M M2) := by
    unfold mf_141_L17
    refine mq_1_L (I := fun (s : Int32) M2 => ∃ k : Nat, s.toInt = k ∧ k ≤ j ∧ (∀ i, k < i → i ≤ j → M2.1 46 i = M.1 46 (i - 1)) ∧ (∀ i, (i ≤ k ∨ j < i) → M2.1 46 i = M.1 46 i) ∧ mq_kp [(46, none)] M M2) (m := fun s _ => (s.toInt + 1).toNat) ?_ ⟨j, hv, Nat.le_refl _, fun i h1 h2 => by omega, fun _ _ => rfl, mq_kp_refl⟩
    rintro x M2 ⟨k, hx, hk, h1, h2, hkp⟩
    unfold mf_141_b17
    by_cases c : 0 < x
    · rw [if_pos c]
      rw [Int32.lt_iff_toInt_lt] at c
      simp only [Int32.reduceToInt] at c
      have e1 : (x - 1).toInt = ((k - 1 : Nat) : Int) := by rw [mi_sub]; simp only [Int32.reduceToInt]; omega
      have n1 : (x - 1).toNatClampNeg = k - 1 := by rw [mq_cl]; omega
      have nx : x.toNatClampNeg = k := by rw [mq_cl]; omega
      rw [if_pos (mq_inr (by omega) (by omega)), if_pos (mq_inr (by omega) (by omega)), n1, nx, h2 (k - 1) (.inl (by omega))]
      refine mq_1_ret (.inl ⟨_, rfl, ⟨k - 1, mi_dec0 hx (by omega), by omega, fun i i1 i2 => ?_, fun i hi => ?_, mq_kp_pi hkp rfl⟩, (mi_dec (by omega)).2⟩)
      · by_cases q : i = k
        · rw [q, mq_ps]
        · rw [mq_pj q]; exact h1 i (by omega) i2
      · rw [mq_pj (by omega)]; exact h2 i (by omega)
    · rw [if_neg c]
      rw [Int32.lt_iff_toInt_lt] at c
      simp only [Int32.reduceToInt] at c
      exact mq_1_ret (.inr ⟨_, rfl, fun i i1 i2 => h1 i (by omega) i2, fun i hi => h2 i (.inr hi), hkp⟩)
  obtain ⟨_, M2, e, a1, a2, k⟩ := L
  have x1 : mf_141 46 256 v M = some (.inl (), mm_pi M2 46 0 (M.1 46 j)) := by
    unfold mf_141 mf_141_j35
    rw [if_neg (by rw [Int32.lt_iff_toInt_lt]; simp only [Int32.reduceToInt]; omega), if_pos (by rw [Int32.lt_iff_toInt_lt]; show v.toInt < (256 : Int32).toInt; simp only [Int32.reduceToInt]; omega), if_pos (mq_inr (by omega) (by omega)), nv, e, mq_Bs, if_pos (by decide)]
    rfl
  refine ⟨_, x1, ⟨mq_ps, fun i i1 i2 => ?_, fun i hi => ?_⟩, mq_kp_pi k rfl⟩
  · rw [mq_pj (by omega)]; exact a1 i i1 i2
  · rw [mq_pj (by omega)]; exact a2 i hi
theorem mt_L94 {N : mm_M} {v1 v2 v3 v4 v5 v : Int32} {j : Nat} (hv : v.toInt = j) (hj : j < 256) : mq_1 (mf_280_L94 v1 v2 v3 v4 v5 v N) (fun _ M2 => (∀ i, 1 ≤ i → i ≤ j → M2.1 94 i = N.1 94 (i - 1)) ∧ (∀ i, j < i → M2.1 94 i = N.1 94 i) ∧ mq_kp [(94, none)] N M2) := by
  unfold mf_280_L94
  refine mq_1_L (I := fun (s : Int32) M2 => ∃ k : Nat, s.toInt = k ∧ k ≤ j ∧ (∀ i, k < i → i ≤ j → M2.1 94 i = N.1 94 (i - 1)) ∧ (∀ i, (i ≤ k ∨ j < i) → M2.1 94 i = N.1 94 i) ∧ mq_kp [(94, none)] N M2) (m := fun s _ => (s.toInt + 1).toNat) ?_ ⟨j, hv, Nat.le_refl _, fun i h1 h2 => by omega, fun _ _ => rfl, mq_kp_refl⟩
  rintro x M2 ⟨k, hx, hk, h1, h2, hkp⟩
  unfold mf_280_b94
  by_cases c : 0 < x
  · rw [if_pos c]
    rw [Int32.lt_iff_toInt_lt] at c
    simp only [Int32.reduceToInt] at c
    have e1 : (x - 1).toInt = ((k - 1 : Nat) : Int) := by rw [mi_sub]; simp only [Int32.reduceToInt]; omega
    have n1 : (x - 1).toNatClampNeg = k - 1 := by rw [mq_cl]; omega
    have nx : x.toNatClampNeg = k := by rw [mq_cl]; omega
    rw [if_pos (mq_inr (by omega) (by omega)), if_pos (mq_inr (by omega) (by omega)), n1, nx, h2 (k - 1) (.inl (by omega))]
    refine mq_1_ret (.inl ⟨_, rfl, ⟨k - 1, mi_dec0 hx (by omega), by omega, fun i i1 i2 => ?_, fun i hi => ?_, mq_kp_pi hkp rfl⟩, (mi_dec (by omega)).2⟩)
    · by_cases q : i = k
      · rw [q, mq_ps]
      · rw [mq_pj q]; exact h1 i (by omega) i2
    · rw [mq_pj (by omega)]; exact h2 i (by omega)
  · rw [if_neg c]
    rw [Int32.lt_iff_toInt_lt] at c
    simp only [Int32.reduceToInt] at c
    exact mq_1_ret (.inr ⟨_, rfl, fun i i1 i2 => h1 i (by omega) i2, fun i hi => h2 i (.inr hi), hkp⟩)
theorem mt_mv_c {a a2 : Nat → Int32} {b y : Int32} {j q : Nat} (h : mt_mv a a2 b j) (hb : a j = b) (hj : j < q) (hy : ∃ i, i < q ∧ a i = y) : ∃ i, i < q ∧ a2 i = y := by
  obtain ⟨i, i1, i2⟩ := hy
  rcases Nat.lt_trichotomy i j with c | c | c
  · exact ⟨i + 1, by omega, by rw [h.2.1 (i + 1) (by omega) (by omega)]; exact i2⟩
  · exact ⟨0, by omega, by rw [h.1, ← hb, ← c]; exact i2⟩
  · exact ⟨i, i1, by rw [h.2.2 i c]; exact i2⟩
theorem mt_mv_u {a a2 p p2 : Nat → Int32} {b : Int32} {j q : Nat} (h : mt_mv a a2 b j) (g : mt_mv p p2 b j) (e : ∀ i, i < q → a i = p i) (hj : j < q) : ∀ i, i < q → a2 i = p2 i := by
  intro i hi
  by_cases c : i = 0
  · rw [c, h.1, g.1]
  · by_cases d : i ≤ j
    · rw [h.2.1 i (by omega) d, g.2.1 i (by omega) d]
      exact e _ (by omega)
    · rw [h.2.2 i (by omega), g.2.2 i (by omega)]
      exact e i hi
