/-! CODES: the reference's tables -/
section AS
variable {t n : Nat} {f : Nat → Nat} {tt nn : Int32}
theorem mc_G_bd (hn3 : n ≤ 300) (hfl : ∀ s, s < n → f s ≤ 20) {l : Nat} (hl : l ≤ 20) : mc_G f n l ≤ 314572800 := by
  have h2 := mc_G_le (f := f) (n := n) (l := l) (20 - l)
  rw [show l + (20 - l) = 20 from by omega, ← mc_sp_G n hfl] at h2
  have h4 := mc_sp_le (f := f) n
  have h5 : mc_G f n l * 1 ≤ mc_G f n l * 2 ^ (20 - l) := Nat.mul_le_mul_left _ (Nat.pow_pos (by decide))
  omega
theorem mq_assignL {N : mm_M} {c l : Nat} {ll cc : Int32} (ht : t ≤ 6) (hn3 : n ≤ 300) (htt : tt.toInt = t) (hnn : nn.toInt = n) (hL : ∀ s, s < n → (N.1 87 (300 * t + s)).toInt = f s) (hfl : ∀ s, s < n → f s ≤ 20) (hl : ll.toInt = l) (l1 : 1 ≤ l) (l2 : l ≤ 20) (hcc : cc.toInt = mc_F f n l) : mq_1 (mf_199_L19 tt nn ll (cc, (300 : Int32) * tt) N) (fun r N2 => r.toInt = mc_G f n l ∧ (∀ s, s < n → f s = l → (N2.1 88 (300 * t + s)).toInt = mc_c f n s) ∧ (∀ p i, (p ≠ 88 ∨ i < 300 * t ∨ 300 * t + n ≤ i ∨ (∀ s, s < n → i = 300 * t + s → f s ≠ l)) → N2.1 p i = N.1 p i)) := by
  have e300 : ((300 : Int32) * tt).toInt = ((300 * t : Nat) : Int) := by rw [mi_mul, htt]; simp only [Int32.reduceToInt]; omega
  have eend : ((300 : Int32) * tt + nn).toInt = ((300 * t + n : Nat) : Int) := by rw [mi_add, e300, hnn]; omega
  have hGb := mc_G_bd hn3 hfl l2
  have hGd : mc_G f n l = mc_F f n l + mc_ct f l n := by
    show mc_F f n l + mc_cn f n l = _
    unfold mc_cn; rw [if_neg (by omega)]
  unfold mf_199_L19
  refine mq_1_L (I := fun (a : Int32 × Int32) N2 => ∃ k : Nat, k ≤ n ∧ a.2.toInt = ((300 * t + k : Nat) : Int) ∧ a.1.toInt = ((mc_F f n l + mc_ct f l k : Nat) : Int) ∧ (∀ s, s < k → f s = l → (N2.1 88 (300 * t + s)).toInt = mc_c f n s) ∧ (∀ p i, (p ≠ 88 ∨ i < 300 * t ∨ 300 * t + n ≤ i ∨ (∀ s, s < n → i = 300 * t + s → f s ≠ l)) → N2.1 p i = N.1 p i)) (m := fun (a : Int32 × Int32) _ => (((300 * t + n : Nat) : Int) - a.2.toInt).toNat) ?_ ⟨0, by omega, e300, hcc, fun s h => by omega, fun _ _ _ => rfl⟩
  rintro ⟨c, x⟩ N2 ⟨k, hk, hx, hc, hcd, hkp⟩
  dsimp only at hx hc
  unfold mf_199_b19
  dsimp only
  refine mq_1_ite (fun d => ?_) (fun d => ?_)
  · rw [Int32.lt_iff_toInt_lt, eend] at d
    have e1 : (x + 1).toInt = ((300 * t + (k + 1) : Nat) : Int) := by rw [mi_add]; simp only [Int32.reduceToInt]; omega
    have hin : mm_in x 2100 = true := mq_inr (by omega) (by omega)
    have exn : x.toNatClampNeg = 300 * t + k := by rw [mq_cl]; omega
    have hLk : (N2.1 87 (300 * t + k)).toInt = f k := by rw [hkp 87 _ (.inl (by decide))]; exact hL k (by omega)
    rw [if_pos hin, exn]
    refine mq_1_ite (fun g => ?_) (fun g => ?_)
    · have g2 := congrArg Int32.toInt g
      rw [hLk, hl] at g2
      have g3 : f k = l := by omega
      have hlt := mc_ct_lt (f := f) (show k < n from by omega) g3
      rw [if_pos hin]
      have ec : (c + 1).toInt = ((mc_F f n l + mc_ct f l (k + 1) : Nat) : Int) := by
        simp only [mc_ct]; rw [if_pos g3, mi_add, hc]; simp only [Int32.reduceToInt]; omega
      refine mq_1_ret (.inl ⟨_, rfl, ⟨k + 1, by omega, e1, ec, ?_, ?_⟩, by dsimp only; omega⟩)
      · intro s hs h
        by_cases q : s = k
        · subst q
          rw [mq_ps, hc]
          unfold mc_c; rw [g3]
        · rw [mq_pj (by omega)]; exact hcd s (by omega) h
      · intro p i h
        rw [mq_p1]
        by_cases q : p = 88
        · rw [if_pos q]
          by_cases q2 : i = 300 * t + k
          · exfalso
            rcases h with h | h | h | h
            · exact h q
            · omega
            · omega
            · exact h k (by omega) q2 g3
          · rw [if_neg q2]; exact hkp p i h
        · rw [if_neg q]; exact hkp p i h
    · have g3 : ¬ f k = l := fun q => g (Int32.toInt_inj.mp (by rw [hLk, hl, q]))
      refine mq_1_ret (.inl ⟨_, rfl, ⟨k + 1, by omega, e1, ?_, ?_, hkp⟩, by dsimp only; omega⟩)
      · dsimp only
        simp only [mc_ct]; rw [if_neg g3]; exact hc
      · intro s hs h
        by_cases q : s = k
        · subst q; exact absurd h g3
        · exact hcd s (by omega) h
  · rw [Int32.lt_iff_toInt_lt, eend] at d
    have : k = n := by omega
    subst this
    exact mq_1_ret (.inr ⟨_, rfl, by rw [hc, hGd], hcd, hkp⟩)
theorem mq_assign {N : mm_M} (ht : t ≤ 6) (hn3 : n ≤ 300) (htt : tt.toInt = t) (hnn : nn.toInt = n) (hL : ∀ s, s < n → (N.1 87 (300 * t + s)).toInt = f s) (hfl : ∀ s, s < n → f s ≤ 20) : mq_1 (mf_199 tt nn N) (fun _ N2 => mq_TR t f n N2 ∧ (∀ p i, (p ≠ 88 ∨ i < 300 * t ∨ 300 * t + n ≤ i) → N2.1 p i = N.1 p i)) := by
  unfold mf_199
  refine mq_1_B (P := fun _ N2 => mq_TR t f n N2 ∧ (∀ p i, (p ≠ 88 ∨ i < 300 * t ∨ 300 * t + n ≤ i) → N2.1 p i = N.1 p i)) ?_ (fun _ _ q => mq_1_ret q)
  unfold mf_199_L5
  refine mq_1_L (I := fun (a : Int32 × Int32) N2 => ∃ l : Nat, 1 ≤ l ∧ l ≤ 21 ∧ a.2.toInt = l ∧ a.1.toInt = mc_F f n l ∧ (∀ s, s < n → f s ≠ 0 → f s < l → (N2.1 88 (300 * t + s)).toInt = mc_c f n s) ∧ (∀ p i, (p ≠ 88 ∨ i < 300 * t ∨ 300 * t + n ≤ i) → N2.1 p i = N.1 p i)) (m := fun (a : Int32 × Int32) _ => (22 - a.2.toInt).toNat) ?_ ⟨1, by omega, by omega, rfl, ?_, fun s h1 h2 h3 => by omega, fun _ _ _ => rfl⟩
  · rintro ⟨c, x⟩ N2 ⟨l, l1, l2, hx, hc, hcd, hkp⟩
    dsimp only at hx hc
    unfold mf_199_b5
    dsimp only
    have hL2 : ∀ s, s < n → (N2.1 87 (300 * t + s)).toInt = f s := by
      intro s h; rw [hkp 87 _ (.inl (by decide))]; exact hL s h
    refine mq_1_ite (fun d => ?_) (fun d => ?_)
    · rw [Int32.lt_iff_toInt_lt] at d
      simp only [Int32.reduceToInt] at d
      refine mq_1_ret (.inr ⟨_, rfl, ?_, hkp⟩)
      intro s h
      exact ⟨hL2 s h, fun h0 => hcd s h h0 (by have := hfl s h; omega)⟩
    · rw [Int32.lt_iff_toInt_lt] at d
      simp only [Int32.reduceToInt] at d
      refine mq_1_B (mq_assignL (c := 0) ht hn3 htt hnn hL2 hfl hx l1 (by omega) hc) ?_
      rintro r N3 ⟨hr, hcd3, hkp3⟩
      have e1 : (x + 1).toInt = ((l + 1 : Nat) : Int) := by rw [mi_add]; simp only [Int32.reduceToInt]; omega
      have hGb := mc_G_bd hn3 hfl (show l ≤ 20 from by omega)
      have es : (mm_shl r 1).toInt = mc_F f n (l + 1) := by
        rw [mi_shl hr (show (1 : Int32).toInt = ((1 : Nat) : Int) from rfl) (by decide) (by omega)]
        show _ = ((2 * mc_G f n l : Nat) : Int)
        omega
      refine mq_1_ret (.inl ⟨_, rfl, ⟨l + 1, by omega, by omega, e1, es, ?_, ?_⟩, by dsimp only; omega⟩)
      · intro s h h0 h1
        by_cases q : f s = l
        · exact hcd3 s h q
        · have hh : ∀ s2, s2 < n → 300 * t + s = 300 * t + s2 → f s2 ≠ l := by
            intro s2 h2 e
            have e' : s2 = s := by omega
            rw [e']; exact q
          rw [hkp3 88 _ (.inr (.inr (.inr hh)))]
          exact hcd s h h0 (by omega)
      · intro p i h
        have h' : p ≠ 88 ∨ i < 300 * t ∨ 300 * t + n ≤ i ∨ (∀ s, s < n → i = 300 * t + s → f s ≠ l) := by
          rcases h with h | h | h
          · exact .inl h
          · exact .inr (.inl h)
          · exact .inr (.inr (.inl h))
        rw [hkp3 p i h']
        exact hkp p i h
  · show (0 : Int32).toInt = ((mc_F f n 1 : Nat) : Int)
    rfl
theorem mq_taken {N : mm_M} (ht : t ≤ 6) (hn3 : n ≤ 300) (htt : tt.toInt = t) (hnn : nn.toInt = n) (hL : ∀ s, s < n → (N.1 87 (300 * t + s)).toInt = f s) (hfl : ∀ s, s < n → f s ≤ 20) : ∃ r : Int64, mf_200 tt nn N = some (.inl r, N) ∧ r.toInt = mc_sp f n := by
  have e300 : ((300 : Int32) * tt).toInt = ((300 * t : Nat) : Int) := by rw [mi_mul, htt]; simp only [Int32.reduceToInt]; omega
  have eend : ((300 : Int32) * tt + nn).toInt = ((300 * t + n : Nat) : Int) := by rw [mi_add, e300, hnn]; omega
  have main : mq_1 (mf_200 tt nn N) (fun r N2 => N2 = N ∧ r.toInt = mc_sp f n) := by
    unfold mf_200
    refine mq_1_B (P := fun (r : Int64) N2 => N2 = N ∧ r.toInt = mc_sp f n) ?_ (fun _ _ q => mq_1_ret q)
    unfold mf_200_L9
    refine mq_1_L (I := fun (a : Int64 × Int32) N2 => N2 = N ∧ ∃ k : Nat, k ≤ n ∧ a.2.toInt = ((300 * t + k : Nat) : Int) ∧ a.1.toInt = mc_sp f k) (m := fun (a : Int64 × Int32) _ => (((300 * t + n : Nat) : Int) - a.2.toInt).toNat) ?_ ⟨rfl, 0, by omega, e300, rfl⟩
    rintro ⟨c, x⟩ N2 ⟨rfl, k, hk, hx, hc⟩
    dsimp only at hx hc
    unfold mf_200_b9
    dsimp only
    refine mq_1_ite (fun d => ?_) (fun d => ?_)
    · rw [Int32.lt_iff_toInt_lt, eend] at d
      have e1 : (x + 1).toInt = ((300 * t + (k + 1) : Nat) : Int) := by rw [mi_add]; simp only [Int32.reduceToInt]; omega
      have hin : mm_in x 2100 = true := mq_inr (by omega) (by omega)
      have exn : x.toNatClampNeg = 300 * t + k := by rw [mq_cl]; omega
      have hLk := hL k (by omega)
      have h20 := hfl k (by omega)
      have hsb := mc_sp_le (f := f) k
      rw [if_pos hin, exn]
      refine mq_1_ite (fun g => ?_) (fun g => ?_)
      · have g2 := congrArg Int32.toInt g
        rw [hLk] at g2
        simp only [Int32.reduceToInt] at g2
        refine mq_1_ret (.inl ⟨_, rfl, ⟨rfl, k + 1, by omega, e1, ?_⟩, by dsimp only; omega⟩)
        dsimp only
        simp only [mc_sp]; rw [if_pos (by omega), Int64.add_zero]; exact hc
      · have g2 : f k ≠ 0 := fun q => g (Int32.toInt_inj.mp (by rw [hLk, q]; rfl))
        rw [if_pos hin]
        have e20 : ((20 : Int32) - N2.1 87 (300 * t + k)).toInt = ((20 - f k : Nat) : Int) := by rw [mi_sub, hLk]; simp only [Int32.reduceToInt]; omega
        have e20n : ((20 : Int32) - N2.1 87 (300 * t + k)).toInt.toNat = 20 - f k := by omega
        have hp : 2 ^ (20 - f k) ≤ 1048576 := Nat.le_trans (Nat.pow_le_pow_right (by decide) (Nat.sub_le _ _)) (Nat.le_of_eq (by rfl))
        have h1 : mq_n (1 : Int64) = 1 := rfl
        have hs := mq_n_shl (x := (1 : Int64)) (k := (20 : Int32) - N2.1 87 (300 * t + k)) (by omega) (by omega) (by rw [h1, e20n]; omega)
        rw [h1, e20n, Nat.mul_one] at hs
        have hs2 := mq_n_int (x := mm_lshl 1 (20 - N2.1 87 (300 * t + k))) (by rw [hs]; omega)
        rw [hs] at hs2
        refine mq_1_ret (.inl ⟨_, rfl, ⟨rfl, k + 1, by omega, e1, ?_⟩, by dsimp only; omega⟩)
        dsimp only
        simp only [mc_sp]; rw [if_neg g2, mj_add, hc, hs2]
        generalize 2 ^ (20 - f k) = y at hp ⊢
        omega
    · rw [Int32.lt_iff_toInt_lt, eend] at d
      have : k = n := by omega
      subst this
      exact mq_1_ret (.inr ⟨_, rfl, rfl, hc⟩)
  obtain ⟨r, N2, e, rfl, q⟩ := main
  exact ⟨r, e, q⟩
theorem mq_fit {N : mm_M} {lk : Int32} (ht : t ≤ 6) (hn3 : n ≤ 300) (htt : tt.toInt = t) (hnn : nn.toInt = n) (hL : ∀ s, s < n → (N.1 87 (300 * t + s)).toInt = f s) (hfl : ∀ s, s < n → f s ≤ 20) : ∃ r : Int32, mf_201 tt nn lk N = some (.inl r, N) ∧ (r = 1 ∧ (mc_sp f n = 1048576 ∨ mc_us f n = 1 ∧ mc_ct f 1 n = 1 ∨ lk ≠ 0 ∧ mc_us f n = 0) ∨ r = 0 ∧ ¬ (mc_sp f n = 1048576 ∨ mc_us f n = 1 ∧ mc_ct f 1 n = 1 ∨ lk ≠ 0 ∧ mc_us f n = 0)) := by
  have e300 : ((300 : Int32) * tt).toInt = ((300 * t : Nat) : Int) := by rw [mi_mul, htt]; simp only [Int32.reduceToInt]; omega
  have eend : ((300 : Int32) * tt + nn).toInt = ((300 * t + n : Nat) : Int) := by rw [mi_add, e300, hnn]; omega
  have main : mq_1 (mf_201_L13 tt nn lk ((0 : Int32), (0 : Int32), ((300 : Int32) * tt)) N) (fun r N2 => N2 = N ∧ r.1.toInt = mc_us f n ∧ r.2.toInt = mc_ct f 1 n) := by
    unfold mf_201_L13
    refine mq_1_L (I := fun (a : Int32 × Int32 × Int32) N2 => N2 = N ∧ ∃ k : Nat, k ≤ n ∧ a.2.2.toInt = ((300 * t + k : Nat) : Int) ∧ a.1.toInt = mc_us f k ∧ a.2.1.toInt = mc_ct f 1 k) (m := fun (a : Int32 × Int32 × Int32) _ => (((300 * t + n : Nat) : Int) - a.2.2.toInt).toNat) ?_ ⟨rfl, 0, by omega, e300, rfl, rfl⟩
    rintro ⟨c, o, x⟩ N2 ⟨rfl, k, hk, hx, hc, ho⟩
    dsimp only at hx hc ho
    unfold mf_201_b13
    dsimp only
    refine mq_1_ite (fun d => ?_) (fun d => ?_)
    · rw [Int32.lt_iff_toInt_lt, eend] at d
      have e1 : (x + 1).toInt = ((300 * t + (k + 1) : Nat) : Int) := by rw [mi_add]; simp only [Int32.reduceToInt]; omega
      have hin : mm_in x 2100 = true := mq_inr (by omega) (by omega)
      have exn : x.toNatClampNeg = 300 * t + k := by rw [mq_cl]; omega
      have hLk := hL k (by omega)
      have hb1 := mc_us_le (f := f) k
      have hb2 := mc_ct_le (f := f) (l := 1) k
      rw [if_pos hin, exn]
      have fin : ∀ y : Int32, (c + y).toInt = mc_us f (k + 1) → mq_1 (mf_201_j42 tt nn lk o x c y N2) (fun r N => (∃ s2, r = .inl s2 ∧ (N = N2 ∧ ∃ k : Nat, k ≤ n ∧ s2.2.2.toInt = ((300 * t + k : Nat) : Int) ∧ s2.1.toInt = mc_us f k ∧ s2.2.1.toInt = mc_ct f 1 k) ∧ (((300 * t + n : Nat) : Int) - s2.2.2.toInt).toNat < (((300 * t + n : Nat) : Int) - x.toInt).toNat) ∨ (∃ z, r = .inr z ∧ (N = N2 ∧ z.1.toInt = mc_us f n ∧ z.2.toInt = mc_ct f 1 n))) := by
        intro y hy
        unfold mf_201_j42
        rw [if_pos hin, exn]
        refine mq_1_ite (fun g => ?_) (fun g => ?_)
        · have g2 := congrArg Int32.toInt g
          rw [hLk] at g2
          simp only [Int32.reduceToInt] at g2
          refine mq_1_ret (.inl ⟨_, rfl, ⟨rfl, k + 1, by omega, e1, hy, ?_⟩, by dsimp only; omega⟩)
          dsimp only
          simp only [mc_ct]; rw [if_pos (by omega), mi_add, ho]; simp only [Int32.reduceToInt]; omega
        · have g2 : f k ≠ 1 := fun q => g (Int32.toInt_inj.mp (by rw [hLk, q]; rfl))
          refine mq_1_ret (.inl ⟨_, rfl, ⟨rfl, k + 1, by omega, e1, hy, ?_⟩, by dsimp only; omega⟩)
          dsimp only
          simp only [mc_ct]; rw [if_neg g2, mi_z]; exact ho
      refine mq_1_ite (fun g => ?_) (fun g => ?_)
      · rw [Int32.lt_iff_toInt_lt, hLk] at g
        simp only [Int32.reduceToInt] at g
        refine fin 1 ?_
        simp only [mc_us]; rw [if_neg (by omega), mi_add, hc]; simp only [Int32.reduceToInt]; omega
      · rw [Int32.lt_iff_toInt_lt, hLk] at g
        simp only [Int32.reduceToInt] at g
        refine fin 0 ?_
        simp only [mc_us]; rw [if_pos (by omega), mi_z]; exact hc
    · rw [Int32.lt_iff_toInt_lt, eend] at d
      have : k = n := by omega
      subst this
      exact mq_1_ret (.inr ⟨_, rfl, rfl, hc, ho⟩)
  obtain ⟨⟨us, one⟩, N2, e, rfl, h1, h2⟩ := main
  obtain ⟨sp, e2, h3⟩ := mq_taken ht hn3 htt hnn hL hfl
  dsimp only at h1 h2
  unfold mf_201
  rw [e, mq_Bs]
  unfold mf_201_j72
  dsimp only
  rw [e2, mq_Bs]
  have c1 : (sp = 1048576 ↔ mc_sp f n = 1048576) := by
    constructor
    · intro q; have := congrArg Int64.toInt q; rw [h3] at this; simp only [Int64.reduceToInt] at this; omega
    · intro q; exact Int64.toInt_inj.mp (by rw [h3, q]; rfl)
  have c2 : (us = 1 ↔ mc_us f n = 1) := by
    constructor
    · intro q; have := congrArg Int32.toInt q; rw [h1] at this; simp only [Int32.reduceToInt] at this; omega
    · intro q; exact Int32.toInt_inj.mp (by rw [h1, q]; rfl)
  have c3 : (us = 0 ↔ mc_us f n = 0) := by
    constructor
    · intro q; have := congrArg Int32.toInt q; rw [h1] at this; simp only [Int32.reduceToInt] at this; omega
    · intro q; exact Int32.toInt_inj.mp (by rw [h1, q]; rfl)
  have c4 : (one = 1 ↔ mc_ct f 1 n = 1) := by
    constructor
    · intro q; have := congrArg Int32.toInt q; rw [h2] at this; simp only [Int32.reduceToInt] at this; omega
    · intro q; exact Int32.toInt_inj.mp (by rw [h2, q]; rfl)
  unfold mf_201_j97
  by_cases a1 : mc_sp f n = 1048576
  · rw [if_pos (c1.mpr a1)]
    exact ⟨1, rfl, .inl ⟨rfl, .inl a1⟩⟩
  · rw [if_neg (fun q => a1 (c1.mp q))]
    have rest : ¬ (mc_us f n = 1 ∧ mc_ct f 1 n = 1) → ∃ r : Int32, (if lk = 0 then some (Sum.inl (0 : Int32), N2) else (if us = 0 then some (Sum.inl (1 : Int32), N2) else some (Sum.inl (0 : Int32), N2)) : mm_O Int32) = some (.inl r, N2) ∧ (r = 1 ∧ (mc_sp f n = 1048576 ∨ mc_us f n = 1 ∧ mc_ct f 1 n = 1 ∨ lk ≠ 0 ∧ mc_us f n = 0) ∨ r = 0 ∧ ¬ (mc_sp f n = 1048576 ∨ mc_us f n = 1 ∧ mc_ct f 1 n = 1 ∨ lk ≠ 0 ∧ mc_us f n = 0)) := by
      intro hno
      by_cases b1 : lk = 0
      · rw [if_pos b1]
        refine ⟨0, rfl, .inr ⟨rfl, ?_⟩⟩
        rintro (q | q | q)
        · exact a1 q
        · exact hno q
        · exact q.1 b1
      · rw [if_neg b1]
        by_cases b2 : mc_us f n = 0
        · rw [if_pos (c3.mpr b2)]
          exact ⟨1, rfl, .inl ⟨rfl, .inr (.inr ⟨b1, b2⟩)⟩⟩
        · rw [if_neg (fun q => b2 (c3.mp q))]
          refine ⟨0, rfl, .inr ⟨rfl, ?_⟩⟩
          rintro (q | q | q)
          · exact a1 q
          · exact hno q
          · exact b2 q.2
    by_cases a2 : mc_us f n = 1
    · rw [if_pos (c2.mpr a2)]
      by_cases a3 : mc_ct f 1 n = 1
      · rw [if_pos (c4.mpr a3)]
        exact ⟨1, rfl, .inl ⟨rfl, .inr (.inl ⟨a2, a3⟩)⟩⟩
      · rw [if_neg (fun q => a3 (c4.mp q))]
        exact rest (fun q => a3 q.2)
    · rw [if_neg (fun q => a2 (c2.mp q))]
      exact rest (fun q => a2 q.1)
end AS
/-- the class's questions -/
theorem mq_full {M : mm_M} {p cap n : Nat} {f : Nat → Nat} (h : mq_TC p f n M) : ∃ r : Int32, mf_102 p cap M = some (.inl r, M) ∧ (r = 1 ∧ (mc_sp f n = 1048576 ∨ mc_us f n = 1 ∧ mc_ct f 1 n = 1) ∨ r = 0 ∧ ¬ (mc_sp f n = 1048576 ∨ mc_us f n = 1 ∧ mc_ct f 1 n = 1)) := by
  obtain ⟨h1, h2, h3, h4⟩ := h
  have h5 := h3 1 (by decide) (by decide)
  have c1 : (M.1 p 5 = 1048576 ↔ mc_sp f n = 1048576) := by
    constructor
    · intro q; have := congrArg Int32.toInt q; rw [h2] at this; simp only [Int32.reduceToInt] at this; omega
    · intro q; exact Int32.toInt_inj.mp (by rw [h2, q]; rfl)
  have c2 : (M.1 p 4 = 1 ↔ mc_us f n = 1) := by
    constructor
    · intro q; have := congrArg Int32.toInt q; rw [h1] at this; simp only [Int32.reduceToInt] at this; omega
    · intro q; exact Int32.toInt_inj.mp (by rw [h1, q]; rfl)
  have c4 : (M.1 (p + 3) 1 = 1 ↔ mc_ct f 1 n = 1) := by
    constructor
    · intro q; have := congrArg Int32.toInt q; rw [h5] at this; simp only [Int32.reduceToInt] at this; omega
    · intro q; exact Int32.toInt_inj.mp (by rw [h5, q]; rfl)
  unfold mf_102
  by_cases a1 : mc_sp f n = 1048576
  · rw [if_pos (c1.mpr a1)]
    exact ⟨1, rfl, .inl ⟨rfl, .inl a1⟩⟩
  · rw [if_neg (fun q => a1 (c1.mp q))]
    by_cases a2 : mc_us f n = 1
    · rw [if_pos (c2.mpr a2), if_pos (show mm_in 1 21 = true from by decide), show (1 : Int32).toNatClampNeg = 1 from rfl]
      by_cases a3 : mc_ct f 1 n = 1
      · rw [if_pos (c4.mpr a3)]
        exact ⟨1, rfl, .inl ⟨rfl, .inr ⟨a2, a3⟩⟩⟩
      · rw [if_neg (fun q => a3 (c4.mp q))]
        refine ⟨0, rfl, .inr ⟨rfl, ?_⟩⟩
        rintro (q | q)
        · exact a1 q
        · exact a3 q.2
    · rw [if_neg (fun q => a2 (c2.mp q))]
      refine ⟨0, rfl, .inr ⟨rfl, ?_⟩⟩
      rintro (q | q)
      · exact a1 q
      · exact a2 q.1
