/-! TURNINGS: the reference sorts -/
theorem mt_B_c {T : Nat → Nat → Prop} {o p : Nat → Nat} {a b : Nat} (h : mt_B T o a b) (e : ∀ i, a ≤ i → i < b → p i = o i) : mt_B T p a b := by
  obtain ⟨h1, h2, h3⟩ := h
  refine ⟨fun i i0 i1 => by rw [e i i0 i1]; exact h1 i i0 i1, fun x x0 x1 => ?_, fun i j i0 ij j1 => by rw [e i i0 (by omega), e j (by omega) j1]; exact h3 i j i0 ij j1⟩
  obtain ⟨i, i0, i1, i2⟩ := h2 x x0 x1
  exact ⟨i, i0, i1, by rw [e i i0 i1]; exact i2⟩
theorem mt_B_0 {T : Nat → Nat → Prop} {o : Nat → Nat} {a : Nat} : mt_B T o a a := ⟨fun i i0 i1 => by omega, fun x x0 x1 => by omega, fun i j i0 ij j1 => by omega⟩
theorem mt_min {x y : Int32} {a b : Nat} (hx : x.toInt = a) (hy : y.toInt = b) : (if x < y then x else y).toInt = ((min a b : Nat) : Int) := by
  by_cases c : x < y
  · rw [if_pos c]
    rw [Int32.lt_iff_toInt_lt] at c
    rw [Nat.min_eq_left (by omega)]
    exact hx
  · rw [if_neg c]
    rw [Int32.lt_iff_toInt_lt] at c
    rw [Nat.min_eq_right (by omega)]
    exact hy
theorem mt_L10 {N : mm_M} {vf vn vw : Int32} {n far w : Nat} {r : Nat → Int} {t : Nat → Nat} (hf : vf.toInt = far) (hn : vn.toInt = n) (hw : vw.toInt = w) (w0 : 1 ≤ w) (w1 : w < n) (hf1 : far ≤ n) (hn1 : n ≤ 12600) (hr : ∀ i, i < n → (N.1 103 i).toInt = r i ∧ -100000 ≤ r i ∧ r i ≤ 100000) (ht : ∀ i, i < n → (N.1 105 i).toInt = t i) (hb : ∀ a, w ∣ a → a < n → mt_B (mt_Q r n far) t a (min (a + w) n)) :
    mq_1 (mf_271_L10 vf vn vw 0 N) (fun _ N2 => (∀ a, 2 * w ∣ a → a < n → mt_B (mt_Q r n far) (fun i => (N2.1 106 i).toInt.toNat) a (min (a + 2 * w) n)) ∧ (∀ i, i < n → 0 ≤ (N2.1 106 i).toInt) ∧ mq_kp [(106, none)] N N2) := by
  unfold mf_271_L10
  refine mq_1_L (I := fun (s : Int32) N2 => ∃ p : Nat, s.toInt = p ∧ p ≤ n + 2 * w ∧ 2 * w ∣ p ∧ (∀ a, 2 * w ∣ a → a < p → a < n → mt_B (mt_Q r n far) (fun i => (N2.1 106 i).toInt.toNat) a (min (a + 2 * w) n)) ∧ (∀ i, i < p → i < n → 0 ≤ (N2.1 106 i).toInt) ∧ mq_kp [(106, none)] N N2) (m := fun s _ => ((n + 2 * w : Nat) - s.toInt).toNat) ?_ ⟨0, rfl, by omega, Nat.dvd_zero _, fun a _ h => by omega, fun i h => by omega, mq_kp_refl⟩
  rintro x N2 ⟨p, hx, p1, pd, g1, g2, hkp⟩
  unfold mf_271_b10
  by_cases c : x < vn
  · rw [if_pos c]
    rw [Int32.lt_iff_toInt_lt] at c
    have e1 : (x + vw).toInt = ((p + w : Nat) : Int) := by rw [mi_add]; omega
    have e2 : (2 * vw).toInt = ((2 * w : Nat) : Int) := by rw [mi_mul]; simp only [Int32.reduceToInt]; omega
    have e3 : (x + 2 * vw).toInt = ((p + 2 * w : Nat) : Int) := by rw [mi_add, e2]; omega
    have m1 := mt_min e1 hn
    have m2 := mt_min e3 hn
    have wd : w ∣ p := Nat.dvd_trans (Nat.dvd_mul_left w 2) pd
    have b1 := hb p wd (by omega)
    have b2 : mt_B (mt_Q r n far) t (min (p + w) n) (min (p + 2 * w) n) := by
      by_cases z : p + w < n
      · have := hb (p + w) (Nat.dvd_add wd (Nat.dvd_refl w)) z
        rw [Nat.min_eq_left (Nat.le_of_lt z), show p + 2 * w = p + w + w from by omega]
        exact this
      · rw [Nat.min_eq_right (by omega), Nat.min_eq_right (by omega)]
        exact mt_B_0
    have key : ∀ vb vc : Int32, vb.toInt = ((min (p + w) n : Nat) : Int) → vc.toInt = ((min (p + 2 * w) n : Nat) : Int) → mq_1 (mf_271_j55 vf vn vw x x vb vc N2) (fun rr N3 => (∃ s2, rr = .inl s2 ∧ (∃ p : Nat, s2.toInt = p ∧ p ≤ n + 2 * w ∧ 2 * w ∣ p ∧ (∀ a, 2 * w ∣ a → a < p → a < n → mt_B (mt_Q r n far) (fun i => (N3.1 106 i).toInt.toNat) a (min (a + 2 * w) n)) ∧ (∀ i, i < p → i < n → 0 ≤ (N3.1 106 i).toInt) ∧ mq_kp [(106, none)] N N3) ∧ ((n + 2 * w : Nat) - s2.toInt).toNat < ((n + 2 * w : Nat) - x.toInt).toNat) ∨ (∃ u, rr = .inr u ∧ (∀ a, 2 * w ∣ a → a < n → mt_B (mt_Q r n far) (fun i => (N3.1 106 i).toInt.toNat) a (min (a + 2 * w) n)) ∧ (∀ i, i < n → 0 ≤ (N3.1 106 i).toInt) ∧ mq_kp [(106, none)] N N3)) := by
      intro vb vc hvb hvc
      unfold mf_271_j55
      refine mq_1_B (mt_272 (N := N2) (r := r) (t := t) hx hvb hvc hf hn (by omega) (by omega) (Nat.min_le_right _ _) hf1 hn1 (fun i hi => by rw [(hkp 103 i rfl).1]; exact hr i hi) (fun i hi => by rw [(hkp 105 i rfl).1]; exact ht i hi) b1 b2) ?_
      rintro _ N3 ⟨q1, q2, q3, k3⟩
      refine mq_1_ret (.inl ⟨_, rfl, ⟨p + 2 * w, e3, by omega, Nat.dvd_add pd (Nat.dvd_refl _), fun a ad ap an => ?_, fun i ip i1 => ?_, mq_kp_trans hkp k3⟩, by omega⟩)
      · by_cases z : a = p
        · rw [z]; exact q1
        · have lt : a < p := by
            apply Decidable.byContradiction
            intro q
            have dd : 2 * w ∣ a - p := Nat.dvd_sub ad pd
            have := Nat.le_of_dvd (by omega) dd
            omega
          have dd : 2 * w ∣ p - a := Nat.dvd_sub pd ad
          have l2 := Nat.le_of_dvd (by omega) dd
          refine mt_B_c (g1 a ad lt an) (fun i i0 i1 => ?_)
          rw [q3 i (.inl (by omega))]
      · by_cases z : i < p
        · rw [q3 i (.inl z)]; exact g2 i z i1
        · exact q2 i (by omega) (by omega)
    unfold mf_271_j35
    by_cases d : x + vw < vn
    · rw [if_pos d]
      rw [if_pos d] at m1
      by_cases e : x + 2 * vw < vn
      · rw [if_pos e]; rw [if_pos e] at m2; exact key _ _ m1 m2
      · rw [if_neg e]; rw [if_neg e] at m2; exact key _ _ m1 m2
    · rw [if_neg d]
      rw [if_neg d] at m1
      by_cases e : x + 2 * vw < vn
      · rw [if_pos e]; rw [if_pos e] at m2; exact key _ _ m1 m2
      · rw [if_neg e]; rw [if_neg e] at m2; exact key _ _ m1 m2
  · rw [if_neg c]
    rw [Int32.lt_iff_toInt_lt] at c
    exact mq_1_ret (.inr ⟨_, rfl, fun a ad an => g1 a ad (by omega) an, fun i hi => g2 i (by omega) hi, hkp⟩)
theorem mt_L74 {N : mm_M} {vf vn vw : Int32} {n : Nat} (hn : vn.toInt = n) (hn1 : n ≤ 12600) : mq_1 (mf_271_L74 vf vn vw 0 N) (fun _ N2 => (∀ i, i < n → N2.1 105 i = N.1 106 i) ∧ mq_kp [(105, none)] N N2) := by
  unfold mf_271_L74
  refine mq_1_L (I := fun (a : Int32) N2 => ∃ k : Nat, k ≤ n ∧ a.toInt = k ∧ (∀ i, i < k → N2.1 105 i = N.1 106 i) ∧ mq_kp [(105, none)] N N2) (m := fun (a : Int32) _ => ((n : Int) - a.toInt).toNat) ?_ ⟨0, by omega, rfl, fun j h => absurd h (Nat.not_lt_zero _), mq_kp_refl⟩
  rintro x N2 ⟨k, hk, hx, h1, hkp⟩
  unfold mf_271_b74
  by_cases c : x < vn
  · rw [if_pos c]
    rw [Int32.lt_iff_toInt_lt] at c
    have e1 : (x + 1).toInt = ((k + 1 : Nat) : Int) := by rw [mi_add]; simp only [Int32.reduceToInt]; omega
    have nx : x.toNatClampNeg = k := by rw [mq_cl]; omega
    rw [if_pos (mq_inr (by omega) (by omega)), if_pos (mq_inr (by omega) (by omega)), nx, (hkp 106 k rfl).1]
    refine mq_1_ret (.inl ⟨_, rfl, ⟨k + 1, by omega, e1, fun i hi => ?_, mq_kp_pi hkp rfl⟩, by omega⟩)
    by_cases q : i = k
    · rw [q, mq_ps]
    · rw [mq_pj q]; exact h1 i (by omega)
  · rw [if_neg c]
    rw [Int32.lt_iff_toInt_lt] at c
    have : k = n := by omega
    subst this
    exact mq_1_ret (.inr ⟨_, rfl, h1, hkp⟩)
theorem mt_271 {N : mm_M} {vf vn : Int32} {n far : Nat} {r : Nat → Int} (hf : vf.toInt = far) (hn : vn.toInt = n) (n0 : 0 < n) (hf1 : far ≤ n) (hn1 : n ≤ 12600) (hr : ∀ i, i < n → (N.1 103 i).toInt = r i ∧ -100000 ≤ r i ∧ r i ≤ 100000) (ht : ∀ i, i < n → (N.1 105 i).toInt = i) : mq_1 (mf_271 vf vn N) (fun _ N2 => ∃ o : Nat → Nat, (∀ i, i < n → (N2.1 105 i).toInt = o i) ∧ mt_S n (mt_Q r n far) o ∧ mq_kp [(105, none), (106, none)] N N2) := by
  unfold mf_271
  refine mq_1_B (P := fun _ N2 => ∃ o : Nat → Nat, (∀ i, i < n → (N2.1 105 i).toInt = o i) ∧ mt_S n (mt_Q r n far) o ∧ mq_kp [(105, none), (106, none)] N N2) ?_ (fun _ _ q => mq_1_ret q)
  unfold mf_271_L2
  refine mq_1_L (I := fun (s : Int32) N2 => ∃ w : Nat, s.toInt = w ∧ 1 ≤ w ∧ w ≤ 2 * n ∧ ∃ t : Nat → Nat, (∀ i, i < n → (N2.1 105 i).toInt = t i) ∧ (∀ a, w ∣ a → a < n → mt_B (mt_Q r n far) t a (min (a + w) n)) ∧ mq_kp [(105, none), (106, none)] N N2) (m := fun s _ => ((2 * n : Nat) - s.toInt).toNat) ?_ ⟨1, rfl, Nat.le_refl _, by omega, fun i => i, ht, fun a _ an => ?_, mq_kp_refl⟩
  · rintro x N2 ⟨w, hx, w0, w1, t, h1, h2, hkp⟩
    unfold mf_271_b2
    by_cases c : x < vn
    · rw [if_pos c]
      rw [Int32.lt_iff_toInt_lt] at c
      refine mq_1_B (mt_L10 (N := N2) (r := r) (t := t) hf hn hx w0 (by omega) hf1 hn1 (fun i hi => by rw [(hkp 103 i rfl).1]; exact hr i hi) h1 h2) ?_
      rintro _ N3 ⟨q1, q2, k3⟩
      refine mq_1_B (mt_L74 (N := N3) hn hn1) ?_
      rintro _ N4 ⟨q3, k4⟩
      have e1 : (x + x).toInt = ((2 * w : Nat) : Int) := by rw [mi_add]; omega
      refine mq_1_ret (.inl ⟨_, rfl, ⟨2 * w, e1, by omega, by omega, fun i => (N3.1 106 i).toInt.toNat, fun i hi => ?_, q1, mq_kp_trans hkp (mq_kp_trans (mq_kp_sub k3 rfl) (mq_kp_sub k4 rfl))⟩, by omega⟩)
      rw [q3 i hi]
      have := q2 i hi
      show (N3.1 106 i).toInt = (((N3.1 106 i).toInt.toNat : Nat) : Int)
      omega
    · rw [if_neg c]
      rw [Int32.lt_iff_toInt_lt] at c
      have b := h2 0 (Nat.dvd_zero _) n0
      rw [Nat.min_eq_right (by omega)] at b
      obtain ⟨b1, b2, b3⟩ := b
      refine mq_1_ret (.inr ⟨_, rfl, t, h1, ⟨mt_P_of (fun i hi => (b1 i (Nat.zero_le _) hi).2) (fun i j hi hj e => ?_), fun i j ij jn => b3 i j (Nat.zero_le _) ij jn⟩, hkp⟩)
      rcases Nat.lt_trichotomy i j with q | q | q
      · have := b3 i j (Nat.zero_le _) q hj
        rw [e] at this
        exact (mt_Q_as this this).elim
      · exact q
      · have := b3 j i (Nat.zero_le _) q hi
        rw [e] at this
        exact (mt_Q_as this this).elim
  · rw [Nat.min_eq_left (by omega)]
    refine ⟨fun i i0 i1 => ⟨i0, i1⟩, fun y y0 y1 => ⟨y, y0, y1, rfl⟩, fun i j i0 ij j1 => by omega⟩
/-- the reference's new numbers -/
theorem mt_L76 {N : mm_M} {vn vf : Int32} {n far : Nat} {r o : Nat → Nat} (hf : vf.toInt = far) (hn : vn.toInt = n) (n0 : 0 < n) (hf1 : far ≤ n) (hn1 : n ≤ 12600) (hr : ∀ i, i < n → (N.1 103 i).toInt = r i ∧ r i ≤ 100000) (ho : ∀ i, i < n → (N.1 105 i).toInt = o i) (hP : mt_P n o) : mq_1 (mf_273_L76 vn vf (0, 0) N) (fun _ N2 => (∀ k, k < n → (N2.1 104 (o k)).toInt = mt_cn r o n far k) ∧ mq_kp [(104, none)] N N2) := by
  unfold mf_273_L76
  refine mq_1_L (I := fun (s : Int32 × Int32) N2 => ∃ k : Nat, s.2.toInt = k ∧ k ≤ n ∧ s.1.toInt = mt_cn r o n far (k - 1) ∧ (∀ j, j < k → (N2.1 104 (o j)).toInt = mt_cn r o n far j) ∧ mq_kp [(104, none)] N N2) (m := fun s _ => ((n : Int) - s.2.toInt).toNat) ?_ ⟨0, rfl, Nat.zero_le _, rfl, fun j h => absurd h (Nat.not_lt_zero _), mq_kp_refl⟩
  rintro ⟨x, y⟩ N2 ⟨k, hy, hk, hx, h1, hkp⟩
  try dsimp only at hy hx ⊢
  unfold mf_273_b76
  by_cases c : y < vn
  · rw [if_pos c]
    rw [Int32.lt_iff_toInt_lt] at c
    have e1 : (y + 1).toInt = ((k + 1 : Nat) : Int) := by rw [mi_add]; simp only [Int32.reduceToInt]; omega
    have ny : y.toNatClampNeg = k := by rw [mq_cl]; omega
    have ok := ho k (by omega)
    have ol := hP.1 k (by omega)
    have no : (N.1 105 k).toNatClampNeg = o k := by rw [mq_cl]; omega
    have cl := mt_cn_le (r := r) (o := o) (n := n) (sp := far) (k - 1)
    have fin : ∀ z : Int32, (x + z).toInt = mt_cn r o n far k → mq_1 (mf_273_j118 vn vf y x z N2) (fun rr N3 => (∃ s2, rr = .inl s2 ∧ (∃ k : Nat, s2.2.toInt = k ∧ k ≤ n ∧ s2.1.toInt = mt_cn r o n far (k - 1) ∧ (∀ j, j < k → (N3.1 104 (o j)).toInt = mt_cn r o n far j) ∧ mq_kp [(104, none)] N N3) ∧ ((n : Int) - s2.2.toInt).toNat < ((n : Int) - y.toInt).toNat) ∨ (∃ u, rr = .inr u ∧ (∀ k, k < n → (N3.1 104 (o k)).toInt = mt_cn r o n far k) ∧ mq_kp [(104, none)] N N3)) := by
      intro z hz
      unfold mf_273_j118
      rw [if_pos (mq_inr (by omega) (by omega)), ny, (hkp 105 k rfl).1, if_pos (mq_inr (by omega) (by omega)), no]
      refine mq_1_ret (.inl ⟨_, rfl, ⟨k + 1, e1, by omega, hz, fun j hj => ?_, mq_kp_pi hkp rfl⟩, by dsimp only; omega⟩)
      by_cases q : j = k
      · rw [q, mq_ps]; exact hz
      · rw [mq_pj (fun z => q (hP.2.1 j k (by omega) (by omega) z))]
        exact h1 j (by omega)
    by_cases d : 0 < y
    · rw [if_pos d]
      rw [Int32.lt_iff_toInt_lt] at d
      simp only [Int32.reduceToInt] at d
      have e3 : (y - 1).toInt = ((k - 1 : Nat) : Int) := by rw [mi_sub]; simp only [Int32.reduceToInt]; omega
      have n3 : (y - 1).toNatClampNeg = k - 1 := by rw [mq_cl]; omega
      rw [if_pos (mq_inr (by omega) (by omega)), if_pos (mq_inr (by omega) (by omega)), n3, ny, (hkp 105 (k - 1) rfl).1, (hkp 105 k rfl).1]
      obtain ⟨cc, x1, x2⟩ := mt_270 (N := N2) (r := fun i => (r i : Int)) (ho (k - 1) (by omega)) ok hf hn (hP.1 (k - 1) (by omega)) ol hf1 hn1 (fun i hi => by rw [(hkp 103 i rfl).1]; have := hr i hi; exact ⟨this.1, by omega, by omega⟩)
      rw [x1, mq_Bs]
      try dsimp only at x2
      have ec : mt_cn r o n far k = mt_cn r o n far (k - 1) + (if r (o (k - 1)) = r (o k) ∧ r ((o (k - 1) + far) % n) = r ((o k + far) % n) then 0 else 1) := by
        obtain ⟨m, rfl⟩ : ∃ m, k = m + 1 := ⟨k - 1, by omega⟩
        rfl
      by_cases z : cc = 0
      · rw [if_pos z]
        unfold mf_273_j117
        rw [z] at x2
        simp only [Int32.reduceToInt] at x2
        refine fin 0 ?_
        rw [mi_z, hx, ec, if_pos]
        · omega
        · by_cases w : (r (o (k - 1)) : Int) - r (o k) = 0
          · rw [if_pos w] at x2; omega
          · rw [if_neg w] at x2; omega
      · rw [if_neg z]
        have z2 : cc.toInt ≠ 0 := fun q => z (Int32.toInt_inj.mp q)
        refine fin 1 ?_
        rw [mi_add, hx, ec, if_neg]
        · simp only [Int32.reduceToInt]; omega
        · rintro ⟨w1, w2⟩
          rw [if_pos (by omega)] at x2
          omega
    · rw [if_neg d]
      rw [Int32.lt_iff_toInt_lt] at d
      simp only [Int32.reduceToInt] at d
      have k0 : k = 0 := by omega
      subst k0
      unfold mf_273_j117
      exact fin 0 (by rw [mi_z]; exact hx)
  · rw [if_neg c]
    rw [Int32.lt_iff_toInt_lt] at c
    have : k = n := by omega
    subst this
    exact mq_1_ret (.inr ⟨_, rfl, h1, hkp⟩)
theorem mt_L142 {N : mm_M} {vf vn : Int32} {n : Nat} (hn : vn.toInt = n) (hn1 : n ≤ 12600) : mq_1 (mf_273_L142 vn vf 0 N) (fun _ N2 => (∀ i, i < n → N2.1 103 i = N.1 104 i) ∧ mq_kp [(103, none)] N N2) := by
  unfold mf_273_L142
  refine mq_1_L (I := fun (a : Int32) N2 => ∃ k : Nat, k ≤ n ∧ a.toInt = k ∧ (∀ i, i < k → N2.1 103 i = N.1 104 i) ∧ mq_kp [(103, none)] N N2) (m := fun (a : Int32) _ => ((n : Int) - a.toInt).toNat) ?_ ⟨0, by omega, rfl, fun j h => absurd h (Nat.not_lt_zero _), mq_kp_refl⟩
  rintro x N2 ⟨k, hk, hx, h1, hkp⟩
  unfold mf_273_b142
  by_cases c : x < vn
  · rw [if_pos c]
    rw [Int32.lt_iff_toInt_lt] at c
    have e1 : (x + 1).toInt = ((k + 1 : Nat) : Int) := by rw [mi_add]; simp only [Int32.reduceToInt]; omega
    have nx : x.toNatClampNeg = k := by rw [mq_cl]; omega
    rw [if_pos (mq_inr (by omega) (by omega)), if_pos (mq_inr (by omega) (by omega)), nx, (hkp 104 k rfl).1]
    refine mq_1_ret (.inl ⟨_, rfl, ⟨k + 1, by omega, e1, fun i hi => ?_, mq_kp_pi hkp rfl⟩, by omega⟩)
    by_cases q : i = k
    · rw [q, mq_ps]
    · rw [mq_pj q]; exact h1 i (by omega)
  · rw [if_neg c]
    rw [Int32.lt_iff_toInt_lt] at c
    have : k = n := by omega
    subst this
    exact mq_1_ret (.inr ⟨_, rfl, h1, hkp⟩)
theorem mt_L47 {N : mm_M} {vf vn : Int32} {n : Nat} (hn : vn.toInt = n) (hn1 : n ≤ 12600) : mq_1 (mf_273_L47 vn vf 0 N) (fun _ N2 => (∀ i, i < n → (N2.1 105 i).toInt = i) ∧ mq_kp [(105, none)] N N2) := by
  unfold mf_273_L47
  refine mq_1_L (I := fun (a : Int32) N2 => ∃ k : Nat, k ≤ n ∧ a.toInt = k ∧ (∀ i, i < k → (N2.1 105 i).toInt = i) ∧ mq_kp [(105, none)] N N2) (m := fun (a : Int32) _ => ((n : Int) - a.toInt).toNat) ?_ ⟨0, by omega, rfl, fun j h => absurd h (Nat.not_lt_zero _), mq_kp_refl⟩
  rintro x N2 ⟨k, hk, hx, h1, hkp⟩
  unfold mf_273_b47
  by_cases c : x < vn
  · rw [if_pos c]
    rw [Int32.lt_iff_toInt_lt] at c
    have e1 : (x + 1).toInt = ((k + 1 : Nat) : Int) := by rw [mi_add]; simp only [Int32.reduceToInt]; omega
    have nx : x.toNatClampNeg = k := by rw [mq_cl]; omega
    rw [if_pos (mq_inr (by omega) (by omega)), nx]
    refine mq_1_ret (.inl ⟨_, rfl, ⟨k + 1, by omega, e1, fun i hi => ?_, mq_kp_pi hkp rfl⟩, by omega⟩)
    by_cases q : i = k
    · rw [q, mq_ps]; exact hx
    · rw [mq_pj q]; exact h1 i (by omega)
  · rw [if_neg c]
    rw [Int32.lt_iff_toInt_lt] at c
    have : k = n := by omega
    subst this
    exact mq_1_ret (.inr ⟨_, rfl, h1, hkp⟩)
theorem mt_L2r {N : mm_M} {vn : Int32} {n : Nat} (hn : vn.toInt = n) (hn1 : n ≤ 12600) : mq_1 (mf_273_L2 vn 0 N) (fun _ N2 => (∀ i, i < n → N2.1 103 i = N.1 102 i ∧ (N2.1 105 i).toInt = i) ∧ mq_kp [(103, none), (105, none)] N N2) := by
  unfold mf_273_L2
  refine mq_1_L (I := fun (a : Int32) N2 => ∃ k : Nat, k ≤ n ∧ a.toInt = k ∧ (∀ i, i < k → N2.1 103 i = N.1 102 i ∧ (N2.1 105 i).toInt = i) ∧ mq_kp [(103, none), (105, none)] N N2) (m := fun (a : Int32) _ => ((n : Int) - a.toInt).toNat) ?_ ⟨0, by omega, rfl, fun j h => absurd h (Nat.not_lt_zero _), mq_kp_refl⟩
  rintro x N2 ⟨k, hk, hx, h1, hkp⟩
  unfold mf_273_b2
  by_cases c : x < vn
  · rw [if_pos c]
    rw [Int32.lt_iff_toInt_lt] at c
    have e1 : (x + 1).toInt = ((k + 1 : Nat) : Int) := by rw [mi_add]; simp only [Int32.reduceToInt]; omega
    have nx : x.toNatClampNeg = k := by rw [mq_cl]; omega
    rw [if_pos (mq_inr (by omega) (by omega)), if_pos (mq_inr (by omega) (by omega)), if_pos (mq_inr (by omega) (by omega)), nx, (hkp 102 k rfl).1]
    refine mq_1_ret (.inl ⟨_, rfl, ⟨k + 1, by omega, e1, fun i hi => ?_, mq_kp_pi (mq_kp_pi hkp rfl) rfl⟩, by omega⟩)
    show (mm_pi N2 103 k (N.1 102 k)).1 103 i = N.1 102 i ∧ ((mm_pi (mm_pi N2 103 k (N.1 102 k)) 105 k x).1 105 i).toInt = i
    by_cases q : i = k
    · rw [q, mq_ps, mq_ps]; exact ⟨rfl, hx⟩
    · rw [mq_pj q, mq_pj q]; exact h1 i (by omega)
  · rw [if_neg c]
    rw [Int32.lt_iff_toInt_lt] at c
    have : k = n := by omega
    subst this
    exact mq_1_ret (.inr ⟨_, rfl, h1, hkp⟩)
theorem mt_273 {N : mm_M} {vn : Int32} {n : Nat} {f : Nat → Nat} (hn : vn.toInt = n) (n0 : 0 < n) (hn1 : n ≤ 12600) (hf : ∀ i, i < n → (N.1 102 i).toInt = f i ∧ f i < 256) : mq_1 (mf_273 vn N) (fun _ N2 => ∃ o r : Nat → Nat, (∀ i, i < n → (N2.1 105 i).toInt = o i) ∧ mt_S n (mt_T n (fun i => (f i : Int)) n) o ∧ (∀ i, i < n → (N2.1 103 i).toInt = r i) ∧ ∃ L, n ≤ L ∧ mt_R n (fun i => (f i : Int)) L (fun i => (r i : Int))) := by
  unfold mf_273
  refine mq_1_B (mt_L2r hn hn1) ?_
  rintro _ N1 ⟨a1, k1⟩
  unfold mf_273_j32
  have R1 : mt_R n (fun i => (f i : Int)) 1 (fun i => (f i : Int)) := mt_R_1 n0
  refine mq_1_B (mt_271 (N := N1) (r := fun i => (f i : Int)) (vf := 0) (far := 0) rfl hn n0 (Nat.zero_le _) hn1 (fun i hi => by rw [(a1 i hi).1]; have := hf i hi; exact ⟨this.1, by omega, by omega⟩) (fun i hi => (a1 i hi).2)) ?_
  rintro _ N2 ⟨o1, b1, b2, k2⟩
  have S1 : mt_S n (mt_T n (fun i => (f i : Int)) 1) o1 := by
    refine ⟨b2.1, fun i j ij jn => ?_⟩
    have l1 := b2.1.1 i (by omega)
    have l2 := b2.1.1 j jn
    have q := b2.2 i j ij jn
    unfold mt_Q at q
    rw [Nat.add_zero, Nat.add_zero, Nat.mod_eq_of_lt l1, Nat.mod_eq_of_lt l2] at q
    rcases q with q | ⟨q, q2⟩
    · exact .inl ((R1 _ _ l1 l2).mp (by omega))
    · exact .inr ⟨(mt_R_eq R1 l1 l2).mp q.1, q2⟩
  refine mq_1_B (P := fun _ N3 => ∃ o r : Nat → Nat, (∀ i, i < n → (N3.1 105 i).toInt = o i) ∧ mt_S n (mt_T n (fun i => (f i : Int)) n) o ∧ (∀ i, i < n → (N3.1 103 i).toInt = r i) ∧ ∃ L, n ≤ L ∧ mt_R n (fun i => (f i : Int)) L (fun i => (r i : Int))) ?_ (fun _ _ q => mq_1_ret q)
  unfold mf_273_L40
  refine mq_1_L (I := fun (s : Int32) N3 => ∃ L : Nat, s.toInt = L ∧ 1 ≤ L ∧ L ≤ 2 * n ∧ ∃ o r : Nat → Nat, (∀ i, i < n → (N3.1 105 i).toInt = o i) ∧ mt_S n (mt_T n (fun i => (f i : Int)) L) o ∧ (∀ i, i < n → (N3.1 103 i).toInt = r i ∧ r i ≤ 100000) ∧ mt_R n (fun i => (f i : Int)) L (fun i => (r i : Int))) (m := fun s _ => ((2 * n : Nat) - s.toInt).toNat) ?_ ⟨1, rfl, Nat.le_refl _, by omega, o1, f, b1, S1, fun i hi => by rw [(k2 103 i rfl).1, (a1 i hi).1]; have := hf i hi; exact ⟨this.1, by omega⟩, R1⟩
  rintro x N3 ⟨L, hx, L1, L2, o, r, c1, c2, c3, c4⟩
  unfold mf_273_b40
  by_cases c : x < vn
  · rw [if_pos c]
    rw [Int32.lt_iff_toInt_lt] at c
    refine mq_1_B (mt_L47 (N := N3) (vf := x) hn hn1) ?_
    rintro _ N4 ⟨d1, k4⟩
    unfold mf_273_j65
    refine mq_1_B (mt_271 (N := N4) (r := fun i => (r i : Int)) (vf := x) (far := L) hx hn n0 (by omega) hn1 (fun i hi => by rw [(k4 103 i rfl).1]; have := c3 i hi; exact ⟨this.1, by omega, by omega⟩) d1) ?_
    rintro _ N5 ⟨o2, e1, e2, k5⟩
    refine mq_1_B (mt_L76 (N := N5) (r := r) (o := o2) hx hn n0 (by omega) hn1 (fun i hi => by rw [(k5 103 i rfl).1, (k4 103 i rfl).1]; exact c3 i hi) e1 e2.1) ?_
    rintro _ N6 ⟨g1, k6⟩
    refine mq_1_B (mt_L142 (N := N6) (vf := x) hn hn1) ?_
    rintro _ N7 ⟨w1, k7⟩
    have S2 : mt_S n (mt_T n (fun i => (f i : Int)) (L + L)) o2 := by
      refine ⟨e2.1, fun i j ij jn => ?_⟩
      have l1 := e2.1.1 i (by omega)
      have l2 := e2.1.1 j jn
      rcases e2.2 i j ij jn with q | ⟨q, q2⟩
      · exact .inl ((mt_R_2 n0 c4 l1 l2).mp q)
      · exact .inr ⟨(mt_R_2e n0 c4 l1 l2).mp q, q2⟩
    have R2 : mt_R n (fun i => (f i : Int)) (L + L) (fun i => (((N7.1 103 i).toInt.toNat : Nat) : Int)) := by
      refine mt_R_new (c := fun k => (mt_cn r o2 n L k : Int)) e2.1 (fun i j ij jn h => mt_T_as (S2.2 i j ij jn) (.inl h)) (fun k hk => ?_) (fun k hk => ?_)
      · have h := mt_R_2e n0 c4 (e2.1.1 k (by omega)) (e2.1.1 (k + 1) hk)
        have e : mt_cn r o2 n L (k + 1) = mt_cn r o2 n L k + (if r (o2 k) = r (o2 (k + 1)) ∧ r ((o2 k + L) % n) = r ((o2 (k + 1) + L) % n) then 0 else 1) := rfl
        try dsimp only at h ⊢
        by_cases q : r (o2 k) = r (o2 (k + 1)) ∧ r ((o2 k + L) % n) = r ((o2 (k + 1) + L) % n)
        · rw [if_pos q] at e
          exact .inl ⟨h.mp ⟨by omega, by omega⟩, by omega⟩
        · rw [if_neg q] at e
          refine .inr ⟨fun z => q ?_, by omega⟩
          have := h.mpr z
          omega
      · try dsimp only
        rw [w1 (o2 k) (e2.1.1 k hk), g1 k hk]
        rfl
    have e9 : (x + x).toInt = ((L + L : Nat) : Int) := by rw [mi_add]; omega
    refine mq_1_ret (.inl ⟨_, rfl, ⟨L + L, e9, by omega, by omega, o2, fun i => (N7.1 103 i).toInt.toNat, fun i hi => ?_, S2, fun i hi => ?_, R2⟩, by omega⟩)
    · rw [(k7 105 i rfl).1, (k6 105 i rfl).1]; exact e1 i hi
    · obtain ⟨k, h1, rfl⟩ := e2.1.2.2 i hi
      try dsimp only
      rw [w1 (o2 k) hi, g1 k h1]
      have := mt_cn_le (r := r) (o := o2) (n := n) (sp := L) k
      exact ⟨rfl, by show mt_cn r o2 n L k ≤ _; omega⟩
  · rw [if_neg c]
    rw [Int32.lt_iff_toInt_lt] at c
    have nL : n ≤ L := by omega
    refine mq_1_ret (.inr ⟨_, rfl, o, r, c1, ⟨c2.1, fun i j ij jn => ?_⟩, fun i hi => (c3 i hi).1, L, nL, c4⟩)
    rcases c2.2 i j ij jn with q | ⟨q, q2⟩
    · exact .inl ((mt_lt_n n0 nL).mp q)
    · exact .inr ⟨mt_eq_le q nL, q2⟩
