/-! WRITING: SORTED, the letters in step -/
def mq_ltM : List (Nat × Option Nat) := [(42, some 10), (42, some 15), (42, some 16), (46, none), (48, none)]
def mq_ltN : List (Nat × Option Nat) := [(84, some 52), (94, none), (104, none)]
/-- what stands between two turnings -/
def mq_lti (M N : mm_M) (n q : Nat) (o : Nat → Nat) (k : Nat) (run : Int32) (M2 N2 : mm_M) : Prop := (∃ c r : Nat, run.toInt = r ∧ M2.1 42 16 = run ∧ c + r ≤ k ∧ mq_l9 M2 N2 c) ∧ (∀ j, j < q → M2.1 46 j = N2.1 94 j) ∧ (∀ i, i < n → ∃ j, j < q ∧ M2.1 46 j = M.1 47 i) ∧ (∀ i, i < k → o i = 0 → (M2.1 42 10).toInt = i) ∧ mq_kp mq_ltM M M2 ∧ mq_kp mq_ltN N N2
theorem mq_lstep {M N : mm_M} {n q k : Nat} {o : Nat → Nat} {vn v2 a run b : Int32} {M2 N2 : mm_M} (hq : (M.1 42 9).toInt = q) (hq1 : q ≤ 256) (hk : k < n) (hn1 : n ≤ 12500) (ha : a.toInt = k) (hb : ∃ j, j < q ∧ M2.1 46 j = b) (hin : ∃ c r : Nat, run.toInt = r ∧ M2.1 42 16 = run ∧ c + r ≤ k ∧ mq_l9 M2 N2 c) (hrow : ∀ j, j < q → M2.1 46 j = N2.1 94 j) (hcon : ∀ i, i < n → ∃ j, j < q ∧ M2.1 46 j = M.1 47 i) (hor : ∀ i, i < k + 1 → o i = 0 → (M2.1 42 10).toInt = i) (k1 : mq_kp mq_ltM M M2) (k2 : mq_kp mq_ltN N N2) {s1 : Int32} (hs : mm_in s1 16384 = true) (hs2 : M2.1 47 s1.toNatClampNeg = b) :
    mq_2 mq_F (mf_150_j78 a s1 M2) (mm_B (mf_280_L46 vn v2 run a b (0 : Int32) N2) (fun r2 M1 => mf_280_j64 vn v2 run a b r2 M1)) (fun r M3 t N3 => ∃ run2 : Int32, r = .inl (a + 1) ∧ t = .inl (run2, a + 1) ∧ mq_lti M N n q o (k + 1) run2 M3 N3) := by
  obtain ⟨c, r, hr, h16, hcr, hl⟩ := hin
  obtain ⟨j, jq, hfi⟩ := mt_fi_e hb
  have hfN : mt_fi (N2.1 94) b j := ⟨by rw [← hrow j jq]; exact hfi.1, fun i hi => by rw [← hrow i (by omega)]; exact hfi.2 i hi⟩
  obtain ⟨y, y1, y2⟩ := mt_L46 (N := N2) (v1 := vn) (v2 := v2) (v3 := run) (v4 := a) (by omega) hfN
  rw [y1, mq_Bs]
  unfold mf_150_j78
  rw [if_pos hs, if_pos (by decide), hs2]
  have e0 : (0 : Int32).toNatClampNeg = 0 := rfl
  rw [e0]
  by_cases c0 : j = 0
  · subst c0
    have y0 : y = 0 := Int32.toInt_inj.mp y2
    subst y0
    unfold mf_280_j64
    rw [if_pos hfi.1.symm, if_pos rfl, h16]
    have er : (run + 1).toInt = ((r + 1 : Nat) : Int) := by rw [mi_add]; simp only [Int32.reduceToInt]; omega
    exact mq_2_ret ⟨run + 1, rfl, rfl, ⟨c, r + 1, er, rfl, by omega, hl⟩, hrow, hcon, hor, mq_kp_pi k1 rfl, k2⟩
  · have ne : ¬ b = M2.1 46 0 := fun z => hfi.2 0 (by omega) z.symm
    have yn : ¬ y = 0 := fun z => by rw [z] at y2; simp only [Int32.reduceToInt] at y2; omega
    unfold mf_280_j64
    rw [if_neg ne, if_neg yn]
    refine mq_2_Bf (mq_lrun hl h16 hr (by omega)) ?_
    rintro _ M3 _ N3 ⟨z16, ⟨c2, w1, w2, l3⟩, k3, k4⟩
    have f46 : ∀ i, M3.1 46 i = M2.1 46 i := fun i => (k3 46 i rfl).1
    have f94 : ∀ i, N3.1 94 i = N2.1 94 i := fun i => (k4 94 i rfl).1
    have q3 : (M3.1 42 9).toInt = q := by rw [(k3 42 9 rfl).1, (k1 42 9 rfl).1]; exact hq
    obtain ⟨y', x1, x2⟩ := mt_152 (M := M3) (b := b) q3 hq1 jq ⟨by rw [f46]; exact hfi.1, fun i hi => by rw [f46]; exact hfi.2 i hi⟩
    have ey : y' = y := Int32.toInt_inj.mp (by rw [x2, y2])
    subst ey
    rw [x1, mq_Bs]
    obtain ⟨M4, x4, mv4, k5⟩ := mt_141 (M := M3) (v := y') y2 (by omega)
    rw [x4, mq_Bs]
    have l4 : mq_l9 M4 N3 c2 := ⟨by rw [(k5 42 15 rfl).1]; exact l3.1, by rw [(k5 42 15 rfl).1]; exact l3.2.1, fun i hi => by rw [(k5 48 i rfl).1]; exact l3.2.2 i hi⟩
    obtain ⟨M5, N5, x5, y5, l5, k6, k7⟩ := mq_lpush (x := y' + 1) l4 (by omega)
    rw [x5, y5, mq_Bs, mq_Bs]
    obtain ⟨_, N6, y6, s6, s7, k8⟩ := mt_L94 (N := N5) (v1 := vn) (v2 := v2) (v3 := 0) (v4 := a) (v5 := b) (v := y') y2 (by omega)
    rw [y6, mq_Bs]
    unfold mf_280_j121
    rw [if_pos (by decide)]
    have hbj : M3.1 46 j = b := by rw [f46]; exact hfi.1
    have mvM : mt_mv (M2.1 46) (M5.1 46) b j := by
      rw [hbj] at mv4
      refine ⟨by rw [(k6 46 0 rfl).1]; exact mv4.1, fun i i1 i2 => by rw [(k6 46 i rfl).1, mv4.2.1 i i1 i2, f46], fun i hi => by rw [(k6 46 i rfl).1, mv4.2.2 i hi, f46]⟩
    have mvN : mt_mv (N2.1 94) ((mm_pi N6 94 0 b).1 94) b j := by
      refine ⟨mq_ps, fun i i1 i2 => ?_, fun i hi => ?_⟩
      · rw [mq_pj (by omega), s6 i i1 i2, (k7 94 _ rfl).1, f94]
      · rw [mq_pj (by omega), s7 i hi, (k7 94 _ rfl).1, f94]
    have l6 : mq_l9 M5 (mm_pi N6 94 0 b) (c2 + 1) := ⟨by show _ = N6.1 84 52; rw [(k8 84 52 rfl).1]; exact l5.1, l5.2.1, fun i hi => by show _ = N6.1 104 i; rw [(k8 104 i rfl).1]; exact l5.2.2 i hi⟩
    have kM : mq_kp mq_ltM M2 M5 := mq_kp_trans (mq_kp_sub k3 rfl) (mq_kp_trans (mq_kp_sub k5 rfl) (mq_kp_sub k6 rfl))
    have kN : mq_kp mq_ltN N2 (mm_pi N6 94 0 b) := mq_kp_pi (mq_kp_trans (mq_kp_sub k4 rfl) (mq_kp_trans (mq_kp_sub k7 rfl) (mq_kp_sub k8 rfl))) rfl
    refine mq_2_ret ⟨0, rfl, rfl, ⟨c2 + 1, 0, rfl, by rw [(k6 42 16 rfl).1, (k5 42 16 rfl).1]; exact z16, by omega, l6⟩, mt_mv_u mvM mvN hrow jq, fun i hi => mt_mv_c mvM hfi.1 jq (hcon i hi), fun i hi oi => ?_, mq_kp_trans k1 kM, mq_kp_trans k2 kN⟩
    rw [(k6 42 10 rfl).1, (k5 42 10 rfl).1, (k3 42 10 rfl).1]
    exact hor i hi oi
theorem mq_lets {M N : mm_M} {n q : Nat} {o : Nat → Nat} {vn v2 : Int32} (hn : (M.1 42 12).toInt = n) (n0 : 0 < n) (hn1 : n ≤ 12500) (hv : vn.toInt = n) (ho : ∀ i, i < n → (M.1 8 i).toInt = o i ∧ (N.1 105 i).toInt = o i) (hP : mt_P n o) (ht : ∀ i, i < n → M.1 47 i = N.1 102 i) (hq : (M.1 42 9).toInt = q) (hq1 : q ≤ 256) (hrow : ∀ j, j < q → M.1 46 j = N.1 94 j) (hcon : ∀ i, i < n → ∃ j, j < q ∧ M.1 46 j = M.1 47 i) (h15 : M.1 42 15 = 0) (h16 : M.1 42 16 = 0) (h52 : N.1 84 52 = 0) : mq_2 mq_F (mf_150_L31 0 M) (mf_280_L17 vn v2 (0, 0) N) (fun _ M2 r N2 => mq_lti M N n q o n r M2 N2) := by
  unfold mf_150_L31 mf_280_L17
  refine mq_2_Lf (I := fun (a : Int32) M2 (b : Int32 × Int32) N2 => a = b.2 ∧ ∃ k : Nat, a.toInt = k ∧ k ≤ n ∧ mq_lti M N n q o k b.1 M2 N2) (m := fun a _ => ((n : Int) - a.toInt).toNat) ?_ ⟨rfl, 0, rfl, Nat.zero_le _, ⟨0, 0, rfl, h16, Nat.le_refl _, by rw [h15, h52], by rw [h15]; rfl, fun j hj => absurd hj (Nat.not_lt_zero _)⟩, hrow, hcon, fun i hi => absurd hi (Nat.not_lt_zero _), mq_kp_refl, mq_kp_refl⟩
  rintro a M2 ⟨run, a'⟩ N2 ⟨e, k, ha, hk, hin, hr2, hc2, hor, k1, k2⟩
  dsimp only at e hin hor ⊢
  subst e
  unfold mf_150_b31 mf_280_b17
  rw [(k1 42 12 rfl).1]
  by_cases c : a < M.1 42 12
  · have c' : a < vn := by rw [Int32.lt_iff_toInt_lt] at c ⊢; omega
    rw [if_pos c, if_pos c']
    rw [Int32.lt_iff_toInt_lt] at c
    have na : a.toNatClampNeg = k := by rw [mq_cl]; omega
    obtain ⟨o1, o2⟩ := ho k (by omega)
    have ol := hP.1 k (by omega)
    have z0 : ¬ vn = 0 := fun z => by rw [z] at hv; simp only [Int32.reduceToInt] at hv; omega
    have e1 : (N.1 105 k + vn).toInt = ((o k + n : Nat) : Int) := by rw [mi_add]; omega
    have e2 : (N.1 105 k + vn - 1).toInt = ((o k + n - 1 : Nat) : Int) := by rw [mi_sub, e1]; simp only [Int32.reduceToInt]; omega
    have e3 : (mm_rem (N.1 105 k + vn - 1) vn).toInt = (((o k + n - 1) % n : Nat) : Int) := by rw [mi_rem (by omega) (by omega), e2, hv]; rfl
    have lt := Nat.mod_lt (o k + n - 1) n0
    have n3 : (mm_rem (N.1 105 k + vn - 1) vn).toNatClampNeg = (o k + n - 1) % n := by rw [mq_cl]; omega
    rw [if_pos (mq_inr (by omega) (by omega)), na, (k1 8 k rfl).1, if_pos (mq_inr (by omega) (by omega)), (k2 105 k rfl).1, if_pos z0, if_pos (mq_inr (by omega) (by omega)), n3, (k2 102 _ rfl).1]
    have fin : ∀ (M3 : mm_M) (s1 : Int32), mq_kp mq_ltM M M3 → (∃ c r : Nat, run.toInt = r ∧ M3.1 42 16 = run ∧ c + r ≤ k ∧ mq_l9 M3 N2 c) → (∀ j, j < q → M3.1 46 j = N2.1 94 j) → (∀ i, i < n → ∃ j, j < q ∧ M3.1 46 j = M.1 47 i) → (∀ i, i < k + 1 → o i = 0 → (M3.1 42 10).toInt = i) → s1.toInt = (((o k + n - 1) % n : Nat) : Int) → mq_2 mq_F (mf_150_j78 a s1 M3) (mm_B (mf_280_L46 vn v2 run a (N.1 102 ((o k + n - 1) % n)) (0 : Int32) N2) (fun r2 M1 => mf_280_j64 vn v2 run a (N.1 102 ((o k + n - 1) % n)) r2 M1)) (fun r M3 t N3 => (∃ a2 b2, r = .inl a2 ∧ t = .inl b2 ∧ (a2 = b2.2 ∧ ∃ k : Nat, a2.toInt = k ∧ k ≤ n ∧ mq_lti M N n q o k b2.1 M3 N3) ∧ ((n : Int) - a2.toInt).toNat < ((n : Int) - a.toInt).toNat) ∨ (∃ u v, r = .inr u ∧ t = .inr v ∧ mq_lti M N n q o n v M3 N3)) := by
      intro M3 s1 k3 hin3 hr3 hc3 hor3 hs1
      have ns : s1.toNatClampNeg = (o k + n - 1) % n := by rw [mq_cl]; omega
      refine mq_2_mono (mq_lstep (o := o) (k := k) hq hq1 (by omega) hn1 ha (by rw [← ht _ lt]; exact hc3 _ lt) hin3 hr3 hc3 hor3 k3 k2 (s1 := s1) (mq_inr (by omega) (by omega)) (by rw [ns, (k3 47 _ rfl).1]; exact ht _ lt)) ?_ (fun _ _ _ z => z)
      rintro r M4 t N4 ⟨run2, rfl, rfl, hli⟩
      have ea : (a + 1).toInt = ((k + 1 : Nat) : Int) := by rw [mi_add]; simp only [Int32.reduceToInt]; omega
      exact .inl ⟨_, _, rfl, rfl, ⟨rfl, k + 1, ea, by omega, hli⟩, by omega⟩
    -- which place stands before
    have place : ∀ M3 : mm_M, M3.1 42 12 = M.1 42 12 → ∃ s1 : Int32, mf_150_j58 a (M.1 8 k) M3 = mf_150_j78 a s1 M3 ∧ s1.toInt = (((o k + n - 1) % n : Nat) : Int) := by
      intro M3 h12
      unfold mf_150_j58
      by_cases d : 0 < M.1 8 k
      · rw [if_pos d]
        rw [Int32.lt_iff_toInt_lt, o1] at d
        simp only [Int32.reduceToInt] at d
        refine ⟨_, rfl, ?_⟩
        rw [mi_sub, o1, Nat.mod_eq_sub_mod (by omega), Nat.mod_eq_of_lt (by omega)]
        simp only [Int32.reduceToInt]
        omega
      · rw [if_neg d, h12]
        rw [Int32.lt_iff_toInt_lt, o1] at d
        simp only [Int32.reduceToInt] at d
        refine ⟨_, rfl, ?_⟩
        rw [mi_sub, hn, Nat.mod_eq_of_lt (by omega)]
        simp only [Int32.reduceToInt]
        omega
    by_cases z : M.1 8 k = 0
    · rw [if_pos z, z]
      obtain ⟨s1, x1, x2⟩ := place (mm_pi M2 42 10 a) (k1 42 12 rfl).1
      rw [z] at x1
      rw [x1]
      refine fin _ s1 (mq_kp_pi k1 rfl) hin hr2 hc2 (fun i hi oi => ?_) x2
      show a.toInt = i
      by_cases w : i = k
      · rw [w]; exact ha
      · exfalso
        rw [z] at o1
        simp only [Int32.reduceToInt] at o1
        have := hP.2.1 i k (by omega) (by omega) (by omega)
        exact w this
    · rw [if_neg z]
      obtain ⟨s1, x1, x2⟩ := place M2 (k1 42 12 rfl).1
      rw [x1]
      refine fin _ s1 k1 hin hr2 hc2 (fun i hi oi => ?_) x2
      by_cases w : i = k
      · exfalso
        rw [w] at oi
        exact z (Int32.toInt_inj.mp (by rw [o1, oi]; rfl))
      · exact hor i (by omega) oi
  · have c' : ¬ a < vn := by rw [Int32.lt_iff_toInt_lt] at c ⊢; omega
    rw [if_neg c, if_neg c']
    rw [Int32.lt_iff_toInt_lt] at c
    have : k = n := by omega
    subst this
    exact mq_2_ret (.inr ⟨_, _, rfl, rfl, hin, hr2, hc2, hor, k1, k2⟩)
