/-! BLOCKS: the known codes -/
theorem mq_TC_of {p n : Nat} {f : Nat → Nat} {M M2 : mm_M} (h : mq_TC p f n M) (e4 : M2.1 p 4 = M.1 p 4) (e5 : M2.1 p 5 = M.1 p 5) (e3 : ∀ i, M2.1 (p + 3) i = M.1 (p + 3) i) (e2 : ∀ i, M2.1 (p + 2) i = M.1 (p + 2) i) : mq_TC p f n M2 := by
  obtain ⟨a, b, c, d⟩ := h
  refine ⟨?_, ?_, ?_, ?_⟩
  · rw [e4]; exact a
  · rw [e5]; exact b
  · intro l l0 l1; rw [e3]; exact c l l0 l1
  · intro s hs h0; rw [e2]; exact d s hs h0
theorem mq_TR_of {t n : Nat} {f : Nat → Nat} {N N2 : mm_M} (h : mq_TR t f n N) (e : ∀ i, 300 * t ≤ i → i < 300 * t + n → N2.1 87 i = N.1 87 i ∧ N2.1 88 i = N.1 88 i) : mq_TR t f n N2 := by
  intro s hs
  have q := e (300 * t + s) (by omega) (by omega)
  rw [q.1, q.2]; exact h s hs
def mc_kf (s : Nat) : Nat := if s < 144 then 8 else if s < 256 then 9 else if s < 280 then 7 else 8
theorem mc_kf_le (s : Nat) : mc_kf s ≤ 20 := by unfold mc_kf; split <;> (try split) <;> (try split) <;> omega
theorem mq_82 {M : mm_M} {x : Int32} {s : Nat} (hx : x.toInt = s) : ∃ r : Int32, mf_82 x M = some (.inl r, M) ∧ r.toInt = mc_kf s := by
  have c1 : (x < 144 ↔ s < 144) := by rw [Int32.lt_iff_toInt_lt]; simp only [Int32.reduceToInt]; omega
  have c2 : (x < 256 ↔ s < 256) := by rw [Int32.lt_iff_toInt_lt]; simp only [Int32.reduceToInt]; omega
  have c3 : (x < 280 ↔ s < 280) := by rw [Int32.lt_iff_toInt_lt]; simp only [Int32.reduceToInt]; omega
  unfold mf_82 mc_kf
  by_cases a : s < 144
  · rw [if_pos (c1.mpr a), if_pos a]; exact ⟨8, rfl, rfl⟩
  · rw [if_neg (fun q => a (c1.mp q)), if_neg a]
    by_cases b : s < 256
    · rw [if_pos (c2.mpr b), if_pos b]; exact ⟨9, rfl, rfl⟩
    · rw [if_neg (fun q => b (c2.mp q)), if_neg b]
      by_cases c : s < 280
      · rw [if_pos (c3.mpr c), if_pos c]; exact ⟨7, rfl, rfl⟩
      · rw [if_neg (fun q => c (c3.mp q)), if_neg c]; exact ⟨8, rfl, rfl⟩
theorem mq_known {M : mm_M} : mq_1 (mf_81 M) (fun _ M2 => mq_TC 17 mc_kf 288 M2 ∧ mq_TC 22 (fun _ => 5) 32 M2) := by
  unfold mf_81
  refine mq_1_B (P := fun _ M2 => ∀ s, s < 288 → (M2.1 18 s).toInt = mc_kf s) ?_ ?_
  · unfold mf_81_L2
    refine mq_1_L (I := fun (a : Int32) M2 => ∃ k : Nat, k ≤ 288 ∧ a.toInt = k ∧ ∀ s, s < k → (M2.1 18 s).toInt = mc_kf s) (m := fun (a : Int32) _ => (288 - a.toInt).toNat) ?_ ⟨0, by omega, rfl, fun s h => by omega⟩
    rintro x M2 ⟨k, hk, hx, hv⟩
    unfold mf_81_b2
    refine mq_1_ite (fun c => ?_) (fun c => ?_)
    · rw [Int32.lt_iff_toInt_lt] at c
      simp only [Int32.reduceToInt] at c
      have e1 : (x + 1).toInt = ((k + 1 : Nat) : Int) := by rw [mi_add]; simp only [Int32.reduceToInt]; omega
      have exn : x.toNatClampNeg = k := by rw [mq_cl]; omega
      obtain ⟨r, er, hr⟩ := mq_82 (M := M2) hx
      rw [er, mq_Bs, if_pos (mq_inr (by omega) (by omega)), exn]
      refine mq_1_ret (.inl ⟨_, rfl, ⟨k + 1, by omega, e1, ?_⟩, by omega⟩)
      intro s hs
      by_cases q : s = k
      · subst q; rw [mq_ps]; exact hr
      · rw [mq_pj q]; exact hv s (by omega)
    · rw [Int32.lt_iff_toInt_lt] at c
      simp only [Int32.reduceToInt] at c
      have : k = 288 := by omega
      subst this
      exact mq_1_ret (.inr ⟨_, rfl, hv⟩)
  · intro _ M1 hL
    unfold mf_81_j28
    refine mq_1_B (mq_make (p := 17) (cap := 288) (n := 288) (f := mc_kf) (by omega) (by omega) (by omega) rfl hL (fun s _ => mc_kf_le s)) ?_
    intro _ M2 hT
    refine mq_1_B (mq_fill (by omega)) ?_
    rintro _ M3 ⟨hv, k3⟩
    have hT3 : mq_TC 17 mc_kf 288 M3 := mq_TC_of hT (k3 17 4 rfl).1 (k3 17 5 rfl).1 (fun i => (k3 20 i rfl).1) (fun i => (k3 19 i rfl).1)
    refine mq_1_B (mq_1_K (mq_make (p := 22) (cap := 32) (n := 32) (f := fun _ => 5) (by omega) (by omega) (by omega) rfl (fun s hs => by rw [hv s hs]; rfl) (fun _ _ => by decide)) mk_99) ?_
    rintro _ M4 ⟨hT4, k4⟩
    exact mq_1_ret ⟨mq_TC_of hT3 (k4 17 4 rfl).1 (k4 17 5 rfl).1 (fun i => (k4 20 i rfl).1) (fun i => (k4 19 i rfl).1), hT4⟩
theorem mq_fixed {N : mm_M} : mq_1 (mf_205 N) (fun _ N2 => mq_TR 0 mc_kf 288 N2 ∧ mq_TR 1 (fun _ => 5) 32 N2 ∧ N2.1 84 20 = 288 ∧ N2.1 84 21 = 32) := by
  unfold mf_205
  refine mq_1_B (P := fun _ N2 => (∀ s, s < 288 → (N2.1 87 s).toInt = mc_kf s) ∧ N2.1 84 20 = 288 ∧ N2.1 84 21 = 32) ?_ ?_
  · unfold mf_205_L15
    refine mq_1_L (I := fun (a : Int32) M2 => ∃ k : Nat, k ≤ 288 ∧ a.toInt = k ∧ (∀ s, s < k → (M2.1 87 s).toInt = mc_kf s) ∧ M2.1 84 20 = 288 ∧ M2.1 84 21 = 32) (m := fun (a : Int32) _ => (288 - a.toInt).toNat) ?_ ⟨0, by omega, rfl, fun s h => by omega, rfl, rfl⟩
    rintro x M2 ⟨k, hk, hx, hv, h20, h21⟩
    unfold mf_205_b15
    refine mq_1_ite (fun c => ?_) (fun c => ?_)
    · rw [Int32.lt_iff_toInt_lt] at c
      simp only [Int32.reduceToInt] at c
      have e1 : (x + 1).toInt = ((k + 1 : Nat) : Int) := by rw [mi_add]; simp only [Int32.reduceToInt]; omega
      have exn : x.toNatClampNeg = k := by rw [mq_cl]; omega
      have fin : ∀ y : Int32, y.toInt = mc_kf k → mq_1 (mf_205_j65 x x y M2) (fun r N => (∃ s2, r = .inl s2 ∧ (∃ k : Nat, k ≤ 288 ∧ s2.toInt = k ∧ (∀ s, s < k → (N.1 87 s).toInt = mc_kf s) ∧ N.1 84 20 = 288 ∧ N.1 84 21 = 32) ∧ (288 - s2.toInt).toNat < (288 - x.toInt).toNat) ∨ (∃ z, r = .inr z ∧ ((∀ s, s < 288 → (N.1 87 s).toInt = mc_kf s) ∧ N.1 84 20 = 288 ∧ N.1 84 21 = 32))) := by
        intro y hy
        unfold mf_205_j65
        rw [if_pos (mq_inr (by omega) (by omega)), exn]
        refine mq_1_ret (.inl ⟨_, rfl, ⟨k + 1, by omega, e1, ?_, h20, h21⟩, by omega⟩)
        intro s hs
        by_cases q : s = k
        · subst q; rw [mq_ps]; exact hy
        · rw [mq_pj q]; exact hv s (by omega)
      have c1 : (x < 144 ↔ k < 144) := by rw [Int32.lt_iff_toInt_lt]; simp only [Int32.reduceToInt]; omega
      have c2 : (x < 256 ↔ k < 256) := by rw [Int32.lt_iff_toInt_lt]; simp only [Int32.reduceToInt]; omega
      have c3 : (x < 280 ↔ k < 280) := by rw [Int32.lt_iff_toInt_lt]; simp only [Int32.reduceToInt]; omega
      unfold mc_kf at fin
      by_cases a : k < 144
      · rw [if_pos (c1.mpr a)]; exact fin 8 (by rw [if_pos a]; rfl)
      · rw [if_neg (fun q => a (c1.mp q))]
        by_cases b : k < 256
        · rw [if_pos (c2.mpr b)]; exact fin 9 (by rw [if_neg a, if_pos b]; rfl)
        · rw [if_neg (fun q => b (c2.mp q))]
          by_cases c : k < 280
          · rw [if_pos (c3.mpr c)]; exact fin 7 (by rw [if_neg a, if_neg b, if_pos c]; rfl)
          · rw [if_neg (fun q => c (c3.mp q))]; exact fin 8 (by rw [if_neg a, if_neg b, if_neg c]; rfl)
    · rw [Int32.lt_iff_toInt_lt] at c
      simp only [Int32.reduceToInt] at c
      have : k = 288 := by omega
      subst this
      exact mq_1_ret (.inr ⟨_, rfl, hv, h20, h21⟩)
  · rintro _ N1 ⟨hL, h20, h21⟩
    refine mq_1_B (P := fun _ N2 => (∀ s, s < 288 → (N2.1 87 s).toInt = mc_kf s) ∧ (∀ s, s < 32 → (N2.1 87 (300 + s)).toInt = 5) ∧ N2.1 84 20 = 288 ∧ N2.1 84 21 = 32) ?_ ?_
    · unfold mf_205_L74
      refine mq_1_L (I := fun (a : Int32) M2 => ∃ k : Nat, k ≤ 32 ∧ a.toInt = k ∧ (∀ s, s < 288 → (M2.1 87 s).toInt = mc_kf s) ∧ (∀ s, s < k → (M2.1 87 (300 + s)).toInt = 5) ∧ M2.1 84 20 = 288 ∧ M2.1 84 21 = 32) (m := fun (a : Int32) _ => (32 - a.toInt).toNat) ?_ ⟨0, by omega, rfl, hL, fun s h => by omega, h20, h21⟩
      rintro x M2 ⟨k, hk, hx, hL, hv, h20, h21⟩
      unfold mf_205_b74
      refine mq_1_ite (fun c => ?_) (fun c => ?_)
      · rw [Int32.lt_iff_toInt_lt] at c
        simp only [Int32.reduceToInt] at c
        have e1 : (x + 1).toInt = ((k + 1 : Nat) : Int) := by rw [mi_add]; simp only [Int32.reduceToInt]; omega
        have e3 : ((300 : Int32) + x).toInt = ((300 + k : Nat) : Int) := by rw [mi_add]; simp only [Int32.reduceToInt]; omega
        have exn : ((300 : Int32) + x).toNatClampNeg = 300 + k := by rw [mq_cl]; omega
        rw [if_pos (mq_inr (by omega) (by omega)), exn]
        refine mq_1_ret (.inl ⟨_, rfl, ⟨k + 1, by omega, e1, ?_, ?_, h20, h21⟩, by omega⟩)
        · intro s hs; rw [mq_pj (by omega)]; exact hL s hs
        · intro s hs
          by_cases q : s = k
          · subst q; rw [mq_ps]; rfl
          · rw [mq_pj (by omega)]; exact hv s (by omega)
      · rw [Int32.lt_iff_toInt_lt] at c
        simp only [Int32.reduceToInt] at c
        have : k = 32 := by omega
        subst this
        exact mq_1_ret (.inr ⟨_, rfl, hL, hv, h20, h21⟩)
    · rintro _ N2 ⟨hL, hv, h20, h21⟩
      unfold mf_205_j97
      refine mq_1_B (mq_assign (t := 0) (n := 288) (f := mc_kf) (by omega) (by omega) rfl rfl (fun s hs => by rw [Nat.mul_zero, Nat.zero_add]; exact hL s hs) (fun s _ => mc_kf_le s)) ?_
      rintro _ N3 ⟨hT, k3⟩
      refine mq_1_B (mq_assign (t := 1) (n := 32) (f := fun _ => 5) (by omega) (by omega) rfl rfl (fun s hs => by rw [k3 87 _ (.inl (by decide))]; exact hv s hs) (fun _ _ => by decide)) ?_
      rintro _ N4 ⟨hT4, k4⟩
      refine mq_1_ret ⟨mq_TR_of hT (fun i h1 h2 => ⟨k4 87 i (.inl (by decide)), k4 88 i (.inr (.inl (by omega)))⟩), hT4, ?_, ?_⟩
      · rw [k4 84 20 (.inl (by decide)), k3 84 20 (.inl (by decide))]; exact h20
      · rw [k4 84 21 (.inl (by decide)), k3 84 21 (.inl (by decide))]; exact h21
