/-! TURNINGS: the class sorts -/
theorem mt_id (n : Nat) : mt_P n (fun i => i) := mt_P_of (fun i h => h) (fun i j _ _ h => h)
theorem mt_L18 {M : mm_M} {p m n : Nat} {f : Nat → Nat} (hp : p ≠ 9 ∧ p ≠ 10) (hm : n ≤ m) (hn : (M.1 7 5).toInt = n) (hn1 : n ≤ 12500) (hp7 : p ≠ 7) (hf : ∀ i, i < n → (M.1 p i).toInt = f i) : mq_1 (mf_66_L18 p m 0 M) (fun _ M2 => (∀ i, i < n → (M2.1 9 i).toInt = f i ∧ (M2.1 10 i).toInt = i) ∧ mq_kp [(9, none), (10, none)] M M2) := by
  unfold mf_66_L18
  refine mq_1_L (I := fun (a : Int32) M2 => ∃ k : Nat, k ≤ n ∧ a.toInt = k ∧ (∀ i, i < k → (M2.1 9 i).toInt = f i ∧ (M2.1 10 i).toInt = i) ∧ mq_kp [(9, none), (10, none)] M M2) (m := fun (a : Int32) _ => ((n : Int) - a.toInt).toNat) ?_ ⟨0, by omega, rfl, fun j h => absurd h (Nat.not_lt_zero _), mq_kp_refl⟩
  rintro x M2 ⟨k, hk, hx, h1, hkp⟩
  unfold mf_66_b18
  rw [(hkp 7 5 rfl).1]
  by_cases c : x < M.1 7 5
  · rw [if_pos c]
    rw [Int32.lt_iff_toInt_lt] at c
    have e1 : (x + 1).toInt = ((k + 1 : Nat) : Int) := by rw [mi_add]; simp only [Int32.reduceToInt]; omega
    have nx : x.toNatClampNeg = k := by rw [mq_cl]; omega
    have wp : mq_ws [(9, none), (10, none)] p k = false := by
      simp only [mq_ws, List.any_cons, List.any_nil, Bool.or_false, Bool.and_true, Bool.or_eq_false_iff, beq_eq_false_iff_ne]
      exact ⟨fun q => hp.1 q.symm, fun q => hp.2 q.symm⟩
    rw [if_pos (mq_inr (by omega) (by omega)), if_pos (mq_inr (by omega) (by omega)), if_pos (mq_inr (by omega) (by omega)), nx, (hkp p k wp).1]
    refine mq_1_ret (.inl ⟨_, rfl, ⟨k + 1, by omega, e1, fun i hi => ?_, mq_kp_pi (mq_kp_pi hkp rfl) rfl⟩, by omega⟩)
    show ((mm_pi M2 9 k (M.1 p k)).1 9 i).toInt = f i ∧ ((mm_pi (mm_pi M2 9 k (M.1 p k)) 10 k x).1 10 i).toInt = i
    by_cases q : i = k
    · rw [q, mq_ps, mq_ps]; exact ⟨hf k (by omega), hx⟩
    · rw [mq_pj q, mq_pj q]; exact h1 i (by omega)
  · rw [if_neg c]
    rw [Int32.lt_iff_toInt_lt] at c
    have : k = n := by omega
    subst this
    exact mq_1_ret (.inr ⟨_, rfl, h1, hkp⟩)
theorem mt_L156 {M : mm_M} {p m n : Nat} (hn : (M.1 7 5).toInt = n) (hn1 : n ≤ 12500) : mq_1 (mf_66_L156 p m 0 M) (fun _ M2 => (∀ i, i < n → (M2.1 10 i).toInt = i) ∧ mq_kp [(10, none)] M M2) := by
  unfold mf_66_L156
  refine mq_1_L (I := fun (a : Int32) M2 => ∃ k : Nat, k ≤ n ∧ a.toInt = k ∧ (∀ i, i < k → (M2.1 10 i).toInt = i) ∧ mq_kp [(10, none)] M M2) (m := fun (a : Int32) _ => ((n : Int) - a.toInt).toNat) ?_ ⟨0, by omega, rfl, fun j h => absurd h (Nat.not_lt_zero _), mq_kp_refl⟩
  rintro x M2 ⟨k, hk, hx, h1, hkp⟩
  unfold mf_66_b156
  rw [(hkp 7 5 rfl).1]
  by_cases c : x < M.1 7 5
  · rw [if_pos c]
    rw [Int32.lt_iff_toInt_lt] at c
    have e1 : (x + 1).toInt = ((k + 1 : Nat) : Int) := by rw [mi_add]; simp only [Int32.reduceToInt]; omega
    have nx : x.toNatClampNeg = k := by rw [mq_cl]; omega
    rw [if_pos (mq_inr (by omega) (by omega)), nx]
    refine mq_1_ret (.inl ⟨_, rfl, ⟨k + 1, by omega, e1, fun i hi => ?_, mq_kp_pi hkp rfl⟩, by omega⟩)
    by_cases q : i = k
    · rw [q, mq_ps]; exact hx
    · rw [mq_pj q]; exact h1 i (by omega)
  · rw [if_neg c]
    rw [Int32.lt_iff_toInt_lt] at c
    have : k = n := by omega
    subst this
    exact mq_1_ret (.inr ⟨_, rfl, h1, hkp⟩)
/-- those that begin L sooner -/
theorem mt_L84 {M : mm_M} {p m n L : Nat} {v : Int32} {o : Nat → Nat} (hn : (M.1 7 5).toInt = n) (hn1 : n ≤ 12500) (hv : v.toInt = L) (hL : L < n) (ho : ∀ i, i < n → (M.1 8 i).toInt = o i) (hP : mt_P n o) : mq_1 (mf_66_L84 p m v 0 M) (fun _ M2 => (∀ i, i < n → (M2.1 10 i).toInt = (((o i + (n - L)) % n : Nat) : Int)) ∧ mq_kp [(10, none)] M M2) := by
  unfold mf_66_L84
  refine mq_1_L (I := fun (a : Int32) M2 => ∃ k : Nat, k ≤ n ∧ a.toInt = k ∧ (∀ i, i < k → (M2.1 10 i).toInt = (((o i + (n - L)) % n : Nat) : Int)) ∧ mq_kp [(10, none)] M M2) (m := fun (a : Int32) _ => ((n : Int) - a.toInt).toNat) ?_ ⟨0, by omega, rfl, fun j h => absurd h (Nat.not_lt_zero _), mq_kp_refl⟩
  rintro x M2 ⟨k, hk, hx, h1, hkp⟩
  unfold mf_66_b84 mf_66_j127
  rw [(hkp 7 5 rfl).1]
  by_cases c : x < M.1 7 5
  · rw [if_pos c]
    rw [Int32.lt_iff_toInt_lt] at c
    have e1 : (x + 1).toInt = ((k + 1 : Nat) : Int) := by rw [mi_add]; simp only [Int32.reduceToInt]; omega
    have nx : x.toNatClampNeg = k := by rw [mq_cl]; omega
    have hin : mm_in x 12500 = true := mq_inr (by omega) (by omega)
    have ok := ho k (by omega)
    have ol := hP.1 k (by omega)
    rw [if_pos hin, if_pos hin, if_pos hin, nx, (hkp 8 k rfl).1]
    have e2 : (M.1 8 k - v).toInt = (o k : Int) - L := by rw [mi_sub]; omega
    have e3 : (M.1 8 k - v + M.1 7 5).toInt = (o k : Int) - L + n := by rw [mi_add, e2]; omega
    have fin : ∀ y : Int32, y.toInt = (((o k + (n - L)) % n : Nat) : Int) → mq_1 (some (.inl (.inl (x + (1 : Int32))), (mm_pi M2 10 k y)) : mm_O (Int32 ⊕ Unit)) (fun t N => (∃ s2, t = .inl s2 ∧ (∃ k : Nat, k ≤ n ∧ s2.toInt = k ∧ (∀ i, i < k → (N.1 10 i).toInt = (((o i + (n - L)) % n : Nat) : Int)) ∧ mq_kp [(10, none)] M N) ∧ ((n : Int) - s2.toInt).toNat < ((n : Int) - x.toInt).toNat) ∨ (∃ u, t = .inr u ∧ (∀ i, i < n → (N.1 10 i).toInt = (((o i + (n - L)) % n : Nat) : Int)) ∧ mq_kp [(10, none)] M N)) := by
      intro y hy
      refine mq_1_ret (.inl ⟨_, rfl, ⟨k + 1, by omega, e1, fun i hi => ?_, mq_kp_pi hkp rfl⟩, by omega⟩)
      by_cases q : i = k
      · rw [q, mq_ps]; exact hy
      · rw [mq_pj q]; exact h1 i (by omega)
    by_cases d : M.1 8 k - v < 0
    · rw [if_pos d]
      rw [Int32.lt_iff_toInt_lt, e2] at d
      simp only [Int32.reduceToInt] at d
      refine fin _ ?_
      rw [e3, Nat.mod_eq_of_lt (by omega)]
      omega
    · rw [if_neg d]
      rw [Int32.lt_iff_toInt_lt, e2] at d
      simp only [Int32.reduceToInt] at d
      refine fin _ ?_
      rw [e2, Nat.mod_eq_sub_mod (by omega), Nat.mod_eq_of_lt (by omega)]
      omega
  · rw [if_neg c]
    rw [Int32.lt_iff_toInt_lt] at c
    have : k = n := by omega
    subst this
    exact mq_1_ret (.inr ⟨_, rfl, h1, hkp⟩)
theorem mt_sooner {n L : Nat} {o : Nat → Nat} (n0 : 0 < n) (hL : L ≤ n) (hP : mt_P n o) : mt_P n (fun i => (o i + (n - L)) % n) ∧ ∀ i, i < n → ((o i + (n - L)) % n + L) % n = o i := by
  have h : ∀ i, i < n → ((o i + (n - L)) % n + L) % n = o i := by
    intro i hi
    rw [Nat.mod_add_mod, show o i + (n - L) + L = o i + n from by omega, Nat.add_mod_right, Nat.mod_eq_of_lt (hP.1 i hi)]
  refine ⟨mt_P_of (fun i _ => Nat.mod_lt _ n0) (fun i j hi hj e => ?_), h⟩
  have e : (o i + (n - L)) % n = (o j + (n - L)) % n := e
  refine hP.2.1 i j hi hj ?_
  rw [← h i hi, ← h j hj, e]
/-- what the class has after L bytes -/
def mt_ci (n : Nat) (F : Nat → Int) (L : Nat) (M : mm_M) : Prop := ∃ o r : Nat → Nat, ∃ rk : Nat, (∀ i, i < n → (M.1 8 i).toInt = o i) ∧ mt_P n o ∧ (∀ i j, i < j → j < n → ¬ mt_lt n F L (o j) (o i)) ∧ (∀ i, i < n → (M.1 9 i).toInt = r i ∧ r i < rk) ∧ mt_R n F L (fun i => (r i : Int)) ∧ (M.1 7 6).toInt = rk ∧ rk ≤ n ∧ (rk = n → ∀ i j, i < n → j < n → r i = r j → i = j)
/-- new numbers from a sorted row -/
theorem mt_ci_of {M : mm_M} {n sp K : Nat} {F : Nat → Int} {o r : Nat → Nat} (n0 : 0 < n) (ho : ∀ i, i < n → (M.1 8 i).toInt = o i) (hP : mt_P n o) (hw : ∀ i j, i < j → j < n → ¬ mt_lt n F K (o j) (o i)) (he : ∀ a b, a < n → b < n → ((r a = r b ∧ r ((a + sp) % n) = r ((b + sp) % n)) ↔ mt_eq n F K a b)) (h9 : ∀ k, k < n → (M.1 9 (o k)).toInt = mt_cn r o n sp k) (h6 : (M.1 7 6).toInt = ((mt_cn r o n sp (n - 1) + 1 : Nat) : Int)) : mt_ci n F K M := by
  have hc : ∀ k, k + 1 < n → (mt_eq n F K (o k) (o (k + 1)) ∧ (mt_cn r o n sp (k + 1) : Int) = mt_cn r o n sp k) ∨ (¬ mt_eq n F K (o k) (o (k + 1)) ∧ (mt_cn r o n sp (k + 1) : Int) = mt_cn r o n sp k + 1) := by
    intro k hk
    have h := he (o k) (o (k + 1)) (hP.1 k (by omega)) (hP.1 (k + 1) hk)
    have e : mt_cn r o n sp (k + 1) = mt_cn r o n sp k + (if r (o k) = r (o (k + 1)) ∧ r ((o k + sp) % n) = r ((o (k + 1) + sp) % n) then 0 else 1) := rfl
    by_cases q : r (o k) = r (o (k + 1)) ∧ r ((o k + sp) % n) = r ((o (k + 1) + sp) % n)
    · rw [if_pos q] at e
      exact .inl ⟨h.mp q, by omega⟩
    · rw [if_neg q] at e
      exact .inr ⟨fun z => q (h.mpr z), by omega⟩
  have hle := mt_cn_le (r := r) (o := o) (n := n) (sp := sp) (n - 1)
  refine ⟨o, fun i => (M.1 9 i).toInt.toNat, mt_cn r o n sp (n - 1) + 1, ho, hP, hw, fun i hi => ?_, ?_, h6, by omega, fun hk i j hi hj e => ?_⟩
  · obtain ⟨k, k1, rfl⟩ := hP.2.2 i hi
    try dsimp only
    have := mt_cn_m (r := r) (o := o) (n := n) (sp := sp) (i := k) (k := n - 1) (by omega)
    rw [h9 k k1]
    exact ⟨rfl, by show mt_cn r o n sp k < _; omega⟩
  · refine mt_R_new (c := fun k => (mt_cn r o n sp k : Int)) hP hw hc (fun k hk => ?_)
    try dsimp only
    rw [h9 k hk]
    rfl
  · have hl := mt_last (n := n) (f := F) (L := K) (o := o) (c := fun k => (mt_cn r o n sp k : Int)) n0 hP hc rfl (by first | omega | (dsimp only; omega))
    obtain ⟨k, k1, rfl⟩ := hP.2.2 i hi
    obtain ⟨m, m1, rfl⟩ := hP.2.2 j hj
    try dsimp only at e
    rw [h9 k k1, h9 m m1] at e
    have a1 := hl k k1
    have a2 := hl m m1
    try dsimp only at a1 a2
    have : k = m := by omega
    rw [this]
theorem mt_66 {M : mm_M} {p m n : Nat} {v : Int32} {f : Nat → Nat} (n0 : 0 < n) (hn1 : n ≤ 12500) (hp : p ≠ 9 ∧ p ≠ 10) (hp7 : p ≠ 7) (hm : n ≤ m) (hm2 : m < 2147483648) (hv : v.toInt = n) (hf : ∀ i, i < n → (M.1 p i).toInt = f i ∧ f i < 256) : mq_1 (mf_66 p m v M) (fun _ M2 => ∃ o : Nat → Nat, (∀ i, i < n → (M2.1 8 i).toInt = o i) ∧ mt_S n (mt_T n (fun i => (f i : Int)) n) o) := by
  have em : mm_min v (mm_min (Int32.ofNat m) 12500) = v := by
    unfold mm_min
    have e0 : (Int32.ofNat m).toInt = m := Int32.toInt_ofNat_of_lt (by omega)
    by_cases c : (12500 : Int32) < Int32.ofNat m
    · rw [if_pos c, if_neg (by rw [Int32.lt_iff_toInt_lt]; simp only [Int32.reduceToInt]; omega)]
    · rw [if_neg c, if_neg (by rw [Int32.lt_iff_toInt_lt, e0]; omega)]
  unfold mf_66
  rw [em]
  refine mq_1_B (mt_L18 (M := mm_pi M 7 5 v) (p := p) (m := m) (n := n) (f := f) hp hm hv hn1 hp7 (fun i hi => by
    have : (mm_pi M 7 5 v).1 p i = M.1 p i := by
      show (if p = 7 then _ else M.1 p i) = _
      rw [if_neg hp7]
    rw [this]; exact (hf i hi).1)) ?_
  rintro _ M1 ⟨a1, k1⟩
  have s1 : (M1.1 7 5).toInt = n := by rw [(k1 7 5 rfl).1]; exact hv
  unfold mf_66_j48
  refine mq_1_B (mt_67' (M := M1) (K := 256) (r := f) (s := fun i => i) s1 hn1 rfl (by decide) (fun i hi => ⟨(a1 i hi).1, (hf i hi).2⟩) (fun i hi => (a1 i hi).2) (mt_id n)) ?_
  rintro _ M2 ⟨o1, b1, b2, b3, k2⟩
  have s2 : (M2.1 7 5).toInt = n := by rw [(k2 7 5 rfl).1]; exact s1
  refine mq_1_B (mt_68 (M := M2) (v := 0) (n := n) (sp := 0) (r := f) (o := o1) s2 n0 hn1 rfl (Nat.zero_le _) (fun i hi => by rw [(k2 9 i rfl).1]; exact (a1 i hi).1) b1 b2) ?_
  rintro _ M3 ⟨c1, c2, k3⟩
  have s3 : (M3.1 7 5).toInt = n := by rw [(k3 7 5 rfl).1]; exact s2
  have R1 : mt_R n (fun i => (f i : Int)) 1 (fun i => (f i : Int)) := mt_R_1 n0
  have ci : mt_ci n (fun i => (f i : Int)) 1 M3 := by
    refine mt_ci_of (r := f) (sp := 0) (o := o1) n0 (fun i hi => by rw [(k3 8 i rfl).1]; exact b1 i hi) b2 (fun i j ij jn h => ?_) (fun a b ha hb => ?_) c1 c2
    · have h1 := (R1 (o1 j) (o1 i) (b2.1 j jn) (b2.1 i (by omega))).mpr h
      obtain ⟨x, y, _, _, e1, e2, e3⟩ := b3 i j ij jn
      try dsimp only at e1 e2 e3 h1
      rw [e1, e2] at h1
      omega
    · rw [Nat.add_zero, Nat.add_zero, Nat.mod_eq_of_lt ha, Nat.mod_eq_of_lt hb, ← mt_R_eq R1 ha hb]
      try dsimp only
      omega
  refine mq_1_B (P := fun _ M4 => (M4.1 7 5).toInt = n ∧ ∃ L, mt_ci n (fun i => (f i : Int)) L M4 ∧ (n ≤ L ∨ (L < n ∧ (M4.1 7 6).toInt = n))) ?_ ?_
  · unfold mf_66_L62
    refine mq_1_L (I := fun (a : Int32) M4 => (M4.1 7 5).toInt = n ∧ ∃ L : Nat, 1 ≤ L ∧ a.toInt = L ∧ L ≤ 2 * n ∧ mt_ci n (fun i => (f i : Int)) L M4) (m := fun a _ => ((2 * n : Int) - a.toInt).toNat) ?_ ⟨s3, 1, Nat.le_refl _, rfl, by omega, ci⟩
    rintro x M4 ⟨s4, L, L1, hx, L2, hci⟩
    unfold mf_66_b62
    by_cases c : x < M4.1 7 5
    · rw [if_pos c]
      rw [Int32.lt_iff_toInt_lt] at c
      obtain ⟨o, r, rk, d1, d2, d3, d4, d5, d6, d7, d8⟩ := hci
      by_cases c2 : M4.1 7 6 < M4.1 7 5
      · rw [if_pos c2]
        rw [Int32.lt_iff_toInt_lt] at c2
        refine mq_1_B (mt_L84 (M := M4) (p := p) (m := m) (n := n) (L := L) (o := o) s4 hn1 hx (by omega) d1 d2) ?_
        rintro _ M5 ⟨e1, k5⟩
        obtain ⟨P5, sn⟩ := mt_sooner (L := L) n0 (by omega) d2
        unfold mf_66_j134
        have s5 : (M5.1 7 5).toInt = n := by rw [(k5 7 5 rfl).1]; exact s4
        refine mq_1_B (mt_67' (M := M5) (K := rk) (r := r) (s := fun i => (o i + (n - L)) % n) s5 hn1 (by rw [(k5 7 6 rfl).1]; exact d6) (by omega) (fun i hi => by rw [(k5 9 i rfl).1]; exact d4 i hi) e1 P5) ?_
        rintro _ M6 ⟨o2, g1, g2, g3, k6⟩
        have s6 : (M6.1 7 5).toInt = n := by rw [(k6 7 5 rfl).1]; exact s5
        refine mq_1_B (mt_68 (M := M6) (v := x) (n := n) (sp := L) (r := r) (o := o2) s6 n0 hn1 hx (by omega) (fun i hi => by rw [(k6 9 i rfl).1, (k5 9 i rfl).1]; exact (d4 i hi).1) g1 g2) ?_
        rintro _ M7 ⟨w1, w2, k7⟩
        have s7 : (M7.1 7 5).toInt = n := by rw [(k7 7 5 rfl).1]; exact s6
        have ex : (x * 2).toInt = ((L + L : Nat) : Int) := by rw [mi_mul]; simp only [Int32.reduceToInt]; omega
        refine mq_1_ret (.inl ⟨_, rfl, ⟨s7, L + L, by omega, ex, by omega, ?_⟩, by omega⟩)
        refine mt_ci_of (r := r) (sp := L) (o := o2) n0 (fun i hi => by rw [(k7 8 i rfl).1]; exact g1 i hi) g2 (fun i j ij jn h => ?_) (fun a b ha hb => ?_) w1 w2
        · obtain ⟨y, z, y1, z1, q1, q2, q3⟩ := g3 i j ij jn
          rw [q1, q2] at h
          try dsimp only at h q3
          have ly := P5.1 y y1
          have lz := P5.1 z z1
          try dsimp only at ly lz
          rcases mt_lt_add.mp h with h | ⟨h, h2⟩
          · have := (d5 _ _ lz ly).mpr h
            try dsimp only at this
            omega
          · have := (mt_R_eq d5 lz ly).mpr h
            try dsimp only at this
            rw [sn y y1, sn z z1] at h2
            exact d3 y z (by omega) z1 h2
        · have := mt_R_2e n0 d5 ha hb
          try dsimp only at this
          rw [← this]
          omega
      · rw [if_neg c2]
        rw [Int32.lt_iff_toInt_lt] at c2
        exact mq_1_ret (.inr ⟨_, rfl, s4, L, ⟨o, r, rk, d1, d2, d3, d4, d5, d6, d7, d8⟩, .inr ⟨by omega, by omega⟩⟩)
    · rw [if_neg c]
      rw [Int32.lt_iff_toInt_lt] at c
      exact mq_1_ret (.inr ⟨_, rfl, s4, L, hci, .inl (by omega)⟩)
  · rintro _ M4 ⟨s4, L, ⟨o, r, rk, d1, d2, d3, d4, d5, d6, d7, d8⟩, hL⟩
    refine mq_1_B (mt_L156 (M := M4) (p := p) (m := m) s4 hn1) ?_
    rintro _ M5 ⟨e1, k5⟩
    unfold mf_66_j177
    refine mq_1_B (mt_67' (M := M5) (K := rk) (r := r) (s := fun i => i) (by rw [(k5 7 5 rfl).1]; exact s4) hn1 (by rw [(k5 7 6 rfl).1]; exact d6) (by omega) (fun i hi => by rw [(k5 9 i rfl).1]; exact d4 i hi) e1 (mt_id n)) ?_
    rintro _ M6 ⟨o2, g1, g2, g3, k6⟩
    refine mq_1_ret ⟨o2, g1, g2, fun i j ij jn => ?_⟩
    obtain ⟨y, z, y1, z1, q1, q2, q3⟩ := g3 i j ij jn
    try dsimp only at q1 q2 q3
    rw [q1, q2]
    rcases hL with hL | ⟨hL, hk⟩
    · rcases q3 with q3 | ⟨q3, q4⟩
      · have := (d5 y z y1 z1).mp (by first | omega | (dsimp only; omega))
        exact .inl ((mt_lt_n n0 hL).mp this)
      · have := (mt_R_eq d5 y1 z1).mp (by first | omega | (dsimp only; omega))
        exact .inr ⟨mt_eq_le this hL, q4⟩
    · rcases q3 with q3 | ⟨q3, q4⟩
      · have := (d5 y z y1 z1).mp (by first | omega | (dsimp only; omega))
        exact .inl (mt_lt_le this (by omega))
      · have := d8 (by omega) y z y1 z1 q3
        omega
