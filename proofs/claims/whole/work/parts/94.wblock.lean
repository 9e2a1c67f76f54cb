/-! WRITING: letters and distances of BLOCKS -/
def mq_ll (k : Nat) : Nat := if k < 8 then k + 3 else 3 + (4 + (k - 8) % 4) * 2 ^ ((k - 4) / 4)
def mq_ld (k : Nat) : Nat := if k < 4 then k + 1 else 1 + (2 + k % 2) * 2 ^ (k / 2 - 1)
theorem mq_ll_s : ∀ k : Fin 28, (k.val < 8 ∧ mq_ll k.val = k.val + 3 ∧ mq_ll (k.val + 1) = k.val + 4) ∨ ∃ j : Fin 6, ∃ i : Fin 4, 1 ≤ j.val ∧ k.val = 4 * j.val + 4 + i.val ∧ mq_ll k.val = 3 + (4 + i.val) * 2 ^ j.val ∧ mq_ll (k.val + 1) = 3 + (5 + i.val) * 2 ^ j.val := by decide
theorem mq_ld_s : ∀ k : Fin 30, (k.val < 4 ∧ mq_ld k.val = k.val + 1 ∧ mq_ld (k.val + 1) = k.val + 2) ∨ ∃ j : Fin 14, ∃ i : Fin 2, 1 ≤ j.val ∧ k.val = 2 * j.val + 2 + i.val ∧ mq_ld k.val = 1 + (2 + i.val) * 2 ^ j.val ∧ mq_ld (k.val + 1) = 1 + (3 + i.val) * 2 ^ j.val := by decide
def mp_255 (v0 : Int32) : Int32 := if v0 < 265 then v0 - 254 else 3 + mm_shl (4 + mm_rem (v0 - 265) 4) ((v0 - 261) / 4)
def mp_256 (v0 : Int32) : Int32 := if v0 < 4 then v0 + 1 else 1 + mm_shl (2 + mm_rem v0 2) (v0 / 2 - 1)
theorem mp_255_d : ∀ k : Fin 29, (mp_255 (Int32.ofNat (257 + k.val))).toInt = mq_ll k.val := by decide
theorem mp_256_d : ∀ k : Fin 31, (mp_256 (Int32.ofNat k.val)).toInt = mq_ld k.val := by decide
theorem mp_255_is {v : Int32} {M : mm_M} : mf_255 v M = some (.inl (mp_255 v), M) := by
  unfold mf_255 mp_255
  by_cases c : v < 265
  · rw [if_pos c, if_pos c]
  · rw [if_neg c, if_neg c]
theorem mp_256_is {v : Int32} {M : mm_M} : mf_256 v M = some (.inl (mp_256 v), M) := by
  unfold mf_256 mp_256
  by_cases c : v < 4
  · rw [if_pos c, if_pos c]
  · rw [if_neg c, if_neg c]
theorem mp_255_n {s : Int32} {k : Nat} (h : s.toInt = ((257 + k : Nat) : Int)) (hk : k < 29) : (mp_255 s).toInt = mq_ll k := by
  have := mp_255_d ⟨k, hk⟩
  dsimp only at this
  rw [← mi_ofk h] at this
  exact this
theorem mp_256_n {s : Int32} {k : Nat} (h : s.toInt = (k : Int)) (hk : k < 31) : (mp_256 s).toInt = mq_ld k := by
  have := mp_256_d ⟨k, hk⟩
  dsimp only at this
  rw [← mi_ofk h] at this
  exact this
theorem mq_1_is {α : Type} {x : mm_O α} {Q : α → Prop} {M : mm_M} (h : mq_1 x (fun r N => N = M ∧ Q r)) : ∃ r, x = some (.inl r, M) ∧ Q r := by
  obtain ⟨a, N, e, rfl, q⟩ := h
  exact ⟨a, e, q⟩
theorem mq_254 {L : Int32} {N : mm_M} (h0 : 3 ≤ L.toInt) (h1 : L.toInt < 258) : ∃ s, mf_254 L N = some (.inl s, N) ∧ ∃ k : Nat, s.toInt = ((257 + k : Nat) : Int) ∧ k < 28 ∧ (mq_ll k : Int) ≤ L.toInt ∧ L.toInt < mq_ll (k + 1) := by
  apply mq_1_is
  unfold mf_254
  rw [if_neg (fun q => by rw [q] at h1; simp only [Int32.reduceToInt] at h1; omega)]
  refine mq_1_B (P := fun s N2 => N2 = N ∧ ∃ k : Nat, s.toInt = ((257 + k : Nat) : Int) ∧ k < 28 ∧ (mq_ll k : Int) ≤ L.toInt ∧ L.toInt < mq_ll (k + 1)) ?_ (fun _ _ q => mq_1_ret q)
  unfold mf_254_L15
  refine mq_1_L (I := fun (s : Int32) N2 => N2 = N ∧ ∃ k : Nat, s.toInt = ((257 + k : Nat) : Int) ∧ k < 28 ∧ (mq_ll k : Int) ≤ L.toInt) (m := fun s _ => (300 - s.toInt).toNat) ?_ ⟨rfl, 0, rfl, by omega, by show ((3 : Nat) : Int) ≤ _; omega⟩
  rintro s N2 ⟨rfl, k, hs, hk, hl⟩
  unfold mf_254_b15
  by_cases c : s < 284
  · rw [if_pos c, mp_255_is, mq_Bs]
    rw [Int32.lt_iff_toInt_lt] at c
    simp only [Int32.reduceToInt] at c
    have e1 : (s + 1).toInt = ((257 + (k + 1) : Nat) : Int) := by rw [mi_add]; simp only [Int32.reduceToInt]; omega
    have e2 := mp_255_n e1 (by omega)
    by_cases d : L < mp_255 (s + 1)
    · rw [if_pos d]
      rw [Int32.lt_iff_toInt_lt, e2] at d
      exact mq_1_ret (.inr ⟨_, rfl, rfl, k, hs, hk, hl, d⟩)
    · rw [if_neg d]
      rw [Int32.lt_iff_toInt_lt, e2] at d
      exact mq_1_ret (.inl ⟨_, rfl, ⟨rfl, k + 1, e1, by omega, by omega⟩, by omega⟩)
  · rw [if_neg c]
    rw [Int32.lt_iff_toInt_lt] at c
    simp only [Int32.reduceToInt] at c
    have : k = 27 := by omega
    subst this
    exact mq_1_ret (.inr ⟨_, rfl, rfl, 27, hs, hk, hl, by show L.toInt < ((259 : Nat) : Int); omega⟩)
theorem mq_257 {d : Int32} {N : mm_M} (h0 : 1 ≤ d.toInt) (h1 : d.toInt ≤ 32768) : ∃ s, mf_257 d N = some (.inl s, N) ∧ ∃ k : Nat, s.toInt = (k : Int) ∧ k < 30 ∧ (mq_ld k : Int) ≤ d.toInt ∧ d.toInt < mq_ld (k + 1) := by
  apply mq_1_is
  unfold mf_257
  refine mq_1_B (P := fun s N2 => N2 = N ∧ ∃ k : Nat, s.toInt = (k : Int) ∧ k < 30 ∧ (mq_ld k : Int) ≤ d.toInt ∧ d.toInt < mq_ld (k + 1)) ?_ (fun _ _ q => mq_1_ret q)
  unfold mf_257_L2
  refine mq_1_L (I := fun (s : Int32) N2 => N2 = N ∧ ∃ k : Nat, s.toInt = (k : Int) ∧ k < 30 ∧ (mq_ld k : Int) ≤ d.toInt) (m := fun s _ => (300 - s.toInt).toNat) ?_ ⟨rfl, 0, rfl, by omega, by show ((1 : Nat) : Int) ≤ _; omega⟩
  rintro s N2 ⟨rfl, k, hs, hk, hl⟩
  unfold mf_257_b2
  by_cases c : s < 29
  · rw [if_pos c, mp_256_is, mq_Bs]
    rw [Int32.lt_iff_toInt_lt] at c
    simp only [Int32.reduceToInt] at c
    have e1 : (s + 1).toInt = ((k + 1 : Nat) : Int) := by rw [mi_add]; simp only [Int32.reduceToInt]; omega
    have e2 := mp_256_n e1 (by omega)
    by_cases q : d < mp_256 (s + 1)
    · rw [if_pos q]
      rw [Int32.lt_iff_toInt_lt, e2] at q
      exact mq_1_ret (.inr ⟨_, rfl, rfl, k, hs, hk, hl, q⟩)
    · rw [if_neg q]
      rw [Int32.lt_iff_toInt_lt, e2] at q
      exact mq_1_ret (.inl ⟨_, rfl, ⟨rfl, k + 1, e1, by omega, by omega⟩, by omega⟩)
  · rw [if_neg c]
    rw [Int32.lt_iff_toInt_lt] at c
    simp only [Int32.reduceToInt] at c
    have : k = 29 := by omega
    subst this
    exact mq_1_ret (.inr ⟨_, rfl, rfl, 29, hs, hk, hl, by show d.toInt < ((32769 : Nat) : Int); omega⟩)
theorem mc_pow_u {a b v : Nat} (h1 : 2 ^ a ≤ v) (h2 : v < 2 ^ (a + 1)) (h3 : 2 ^ b ≤ v) (h4 : v < 2 ^ (b + 1)) : a = b := by
  rcases Nat.lt_trichotomy a b with c | c | c
  · have := Nat.pow_le_pow_right (n := 2) (by decide) (show a + 1 ≤ b from c)
    omega
  · exact c
  · have := Nat.pow_le_pow_right (n := 2) (by decide) (show b + 1 ≤ a from c)
    omega
theorem mq_len {L : Int32} {M N : mm_M} (h0 : 3 ≤ L.toInt) (h1 : L.toInt ≤ 258) : ∃ s e : Int32, mf_94 L M = some (.inl s, M) ∧ mf_95 L M = some (.inl e, M) ∧ mf_254 L N = some (.inl s, N) ∧ mf_258 s N = some (.inl e, N) ∧ 257 ≤ s.toInt ∧ s.toInt ≤ 285 ∧ 0 ≤ e.toInt ∧ e.toInt ≤ 5 ∧ (s = 285 ∧ e = 0 ∨ ¬ s = 285 ∧ mf_255 s N = some (.inl (mp_255 s), N) ∧ (L - mp_255 s).toInt = (L.toInt - 3) % ((2 ^ e.toInt.toNat : Nat) : Int)) := by
  by_cases c : L = 258
  · subst c
    exact ⟨285, 0, rfl, rfl, rfl, rfl, by decide, by decide, by decide, by decide, .inl ⟨rfl, rfl⟩⟩
  have h2 : L.toInt < 258 := by
    have : L.toInt ≠ 258 := fun q => c (Int32.toInt_inj.mp q)
    omega
  obtain ⟨s, es, k, hs, hk, hl, hu⟩ := mq_254 (N := N) h0 h2
  have hv : (L - 3).toInt = L.toInt - 3 := by rw [mi_sub]; simp only [Int32.reduceToInt]; omega
  have n285 : ¬ s = 285 := fun q => by rw [q] at hs; simp only [Int32.reduceToInt] at hs; omega
  have e255 := mp_255_n hs (by omega)
  have e258 : (L - mp_255 s).toInt = L.toInt - mq_ll k := by rw [mi_sub, e255]; omega
  rcases mq_ll_s ⟨k, hk⟩ with ⟨k8, l1, l2⟩ | ⟨j, i, j1, kj, l1, l2⟩
  · dsimp only at k8 l1 l2
    rw [l1] at hl
    rw [l2] at hu
    have e95 : mf_95 L M = some (.inl 0, M) := by
      unfold mf_95
      rw [if_pos (by rw [Int32.lt_iff_toInt_lt, hv]; simp only [Int32.reduceToInt]; omega)]
    have e94 : mf_94 L M = some (.inl s, M) := by
      unfold mf_94
      rw [if_neg c, e95, mq_Bs]
      by_cases d : L - 3 < 4
      · rw [if_pos d]
        have : 257 + (L - 3) = s := Int32.toInt_inj.mp (by rw [mi_add, hv]; simp only [Int32.reduceToInt]; omega)
        rw [this]
      · rw [if_neg d]
        have e0 : mm_shr (L - 3) 0 = L - 3 := Int32.toInt_inj.mp (by rw [mi_shr_nat (by omega) (by decide) (by decide)]; show _ / ((1 : Nat) : Int) = _; omega)
        have : 257 + 4 * 0 + mm_shr (L - 3) 0 = s := Int32.toInt_inj.mp (by rw [e0, mi_add, hv, show (257 + 4 * 0 : Int32).toInt = 257 from rfl]; omega)
        rw [this]
    have e8 : mf_258 s N = some (.inl 0, N) := by
      unfold mf_258
      rw [if_pos (by rw [Int32.lt_iff_toInt_lt]; simp only [Int32.reduceToInt]; omega)]
    refine ⟨s, 0, e94, e95, es, e8, by omega, by omega, by decide, by decide, .inr ⟨n285, mp_255_is, ?_⟩⟩
    rw [e258, l1]
    show _ = _ % ((1 : Nat) : Int)
    omega
  · dsimp only at kj l1 l2
    rw [l1] at hl
    rw [l2] at hu
    have hjl := j.isLt
    have hil := i.isLt
    have pj : 0 < 2 ^ j.val := Nat.pow_pos (by decide)
    obtain ⟨v, hvv⟩ : ∃ v : Nat, L.toInt - 3 = v := ⟨(L.toInt - 3).toNat, by omega⟩
    have vl : (4 + i.val) * 2 ^ j.val ≤ v := by omega
    have vu : v < (5 + i.val) * 2 ^ j.val := by omega
    have vq : v / 2 ^ j.val = 4 + i.val := Nat.div_eq_of_lt_le vl (by rw [show 4 + i.val + 1 = 5 + i.val from by omega]; exact vu)
    have vm : v % 2 ^ j.val + (4 + i.val) * 2 ^ j.val = v := by
      have := Nat.div_add_mod v (2 ^ j.val)
      rw [vq, Nat.mul_comm] at this
      omega
    have p2 : 2 ^ (j.val + 2) = 4 * 2 ^ j.val := by rw [Nat.pow_add]; omega
    have p3 : 2 ^ (j.val + 2 + 1) = 8 * 2 ^ j.val := by rw [Nat.pow_succ, p2]; omega
    have lo : 4 * 2 ^ j.val ≤ (4 + i.val) * 2 ^ j.val := Nat.mul_le_mul_right _ (by omega)
    have hi : (5 + i.val) * 2 ^ j.val ≤ 8 * 2 ^ j.val := Nat.mul_le_mul_right _ (by omega)
    have pj2 : 2 ≤ 2 ^ j.val := by
      have := Nat.pow_le_pow_right (n := 2) (by decide) j1
      omega
    obtain ⟨r, er, r0, r1, r2, r3⟩ := mq_top (v := L - 3) (M := M) (by omega)
    rw [hv, hvv] at r2 r3
    have er2 : r.toInt.toNat = j.val + 2 := mc_pow_u (v := v) (by omega) (by omega) (by omega) (by omega)
    have e2 : (r - 2).toInt = j.val := by rw [mi_sub]; simp only [Int32.reduceToInt]; omega
    have e95 : mf_95 L M = some (.inl (r - 2), M) := by
      unfold mf_95
      rw [if_neg (by rw [Int32.lt_iff_toInt_lt, hv]; simp only [Int32.reduceToInt]; omega), if_neg c, er, mq_Bs]
    have en : (r - 2).toInt.toNat = j.val := by omega
    have esh : (mm_shr (L - 3) (r - 2)).toInt = ((4 + i.val : Nat) : Int) := by
      rw [mi_shr_nat (by omega) (by omega) (by omega), en, hv, hvv, ← vq]
      rfl
    have e94 : mf_94 L M = some (.inl s, M) := by
      unfold mf_94
      rw [if_neg c, e95, mq_Bs, if_neg (by rw [Int32.lt_iff_toInt_lt, hv]; simp only [Int32.reduceToInt]; omega)]
      have e4 : (4 * (r - 2)).toInt = 4 * j.val := by rw [mi_mul, e2]; simp only [Int32.reduceToInt]; omega
      have e5 : (257 + 4 * (r - 2)).toInt = 257 + 4 * j.val := by rw [mi_add, e4]; simp only [Int32.reduceToInt]; omega
      have : 257 + 4 * (r - 2) + mm_shr (L - 3) (r - 2) = s := Int32.toInt_inj.mp (by rw [mi_add, e5, esh]; omega)
      rw [this]
    have e8 : mf_258 s N = some (.inl (r - 2), N) := by
      unfold mf_258
      have e6 : (s - 261).toInt = s.toInt - 261 := by rw [mi_sub]; simp only [Int32.reduceToInt]; omega
      have : (s - 261) / 4 = r - 2 := Int32.toInt_inj.mp (by rw [mi_div (by omega) (by decide), e6, e2]; simp only [Int32.reduceToInt]; omega)
      rw [if_neg (by rw [Int32.lt_iff_toInt_lt]; simp only [Int32.reduceToInt]; omega), if_neg n285, this]
    refine ⟨s, r - 2, e94, e95, es, e8, by omega, by omega, by omega, by omega, .inr ⟨n285, mp_255_is, ?_⟩⟩
    rw [e258, l1, en, hvv]
    have : ((v : Int) % ((2 ^ j.val : Nat) : Int)) = ((v % 2 ^ j.val : Nat) : Int) := rfl
    rw [this]
    omega
theorem mq_wdist {d : Int32} {M N : mm_M} (h0 : 1 ≤ d.toInt) (h1 : d.toInt ≤ 32768) : ∃ s e : Int32, mf_96 d M = some (.inl e, M) ∧ s = (if d - 1 < 4 then d - 1 else 2 * e + 2 + (mm_shr (d - 1) e &&& 1)) ∧ mf_257 d N = some (.inl s, N) ∧ mf_259 s N = some (.inl e, N) ∧ 0 ≤ s.toInt ∧ s.toInt ≤ 29 ∧ 0 ≤ e.toInt ∧ e.toInt ≤ 13 ∧ (d - mp_256 s).toInt = (d.toInt - 1) % ((2 ^ e.toInt.toNat : Nat) : Int) := by
  obtain ⟨s, es, k, hs, hk, hl, hu⟩ := mq_257 (N := N) h0 h1
  have hv : (d - 1).toInt = d.toInt - 1 := by rw [mi_sub]; simp only [Int32.reduceToInt]; omega
  have e256 := mp_256_n hs (by omega)
  have e258 : (d - mp_256 s).toInt = d.toInt - mq_ld k := by rw [mi_sub, e256]; omega
  rcases mq_ld_s ⟨k, hk⟩ with ⟨k8, l1, l2⟩ | ⟨j, i, j1, kj, l1, l2⟩
  · dsimp only at k8 l1 l2
    rw [l1] at hl
    rw [l2] at hu
    have c4 : d - 1 < 4 := by rw [Int32.lt_iff_toInt_lt, hv]; simp only [Int32.reduceToInt]; omega
    refine ⟨s, 0, ?_, ?_, es, ?_, by omega, by omega, by decide, by decide, ?_⟩
    · unfold mf_96
      rw [if_pos c4]
    · rw [if_pos c4]
      exact Int32.toInt_inj.mp (by omega)
    · unfold mf_259
      rw [if_pos (by rw [Int32.lt_iff_toInt_lt]; simp only [Int32.reduceToInt]; omega)]
    · rw [e258, l1]
      show _ = _ % ((1 : Nat) : Int)
      omega
  · dsimp only at kj l1 l2
    rw [l1] at hl
    rw [l2] at hu
    have hjl := j.isLt
    have hil := i.isLt
    have pj : 0 < 2 ^ j.val := Nat.pow_pos (by decide)
    obtain ⟨v, hvv⟩ : ∃ v : Nat, d.toInt - 1 = v := ⟨(d.toInt - 1).toNat, by omega⟩
    have vl : (2 + i.val) * 2 ^ j.val ≤ v := by omega
    have vu : v < (3 + i.val) * 2 ^ j.val := by omega
    have vq : v / 2 ^ j.val = 2 + i.val := Nat.div_eq_of_lt_le vl (by rw [show 2 + i.val + 1 = 3 + i.val from by omega]; exact vu)
    have vm : v % 2 ^ j.val + (2 + i.val) * 2 ^ j.val = v := by
      have := Nat.div_add_mod v (2 ^ j.val)
      rw [vq, Nat.mul_comm] at this
      omega
    have p2 : 2 ^ (j.val + 1) = 2 * 2 ^ j.val := by rw [Nat.pow_succ]; omega
    have p3 : 2 ^ (j.val + 1 + 1) = 4 * 2 ^ j.val := by rw [Nat.pow_succ, p2]; omega
    have lo : 2 * 2 ^ j.val ≤ (2 + i.val) * 2 ^ j.val := Nat.mul_le_mul_right _ (by omega)
    have hi : (3 + i.val) * 2 ^ j.val ≤ 4 * 2 ^ j.val := Nat.mul_le_mul_right _ (by omega)
    have pj2 : 2 ≤ 2 ^ j.val := by
      have := Nat.pow_le_pow_right (n := 2) (by decide) j1
      omega
    obtain ⟨r, er, r0, r1, r2, r3⟩ := mq_top (v := d - 1) (M := M) (by omega)
    rw [hv, hvv] at r2 r3
    have er2 : r.toInt.toNat = j.val + 1 := mc_pow_u (v := v) (by omega) (by omega) (by omega) (by omega)
    have e2 : (r - 1).toInt = j.val := by rw [mi_sub]; simp only [Int32.reduceToInt]; omega
    have c4 : ¬ d - 1 < 4 := by rw [Int32.lt_iff_toInt_lt, hv]; simp only [Int32.reduceToInt]; omega
    have en : (r - 1).toInt.toNat = j.val := by omega
    have esh : (mm_shr (d - 1) (r - 1)).toInt = ((2 + i.val : Nat) : Int) := by
      rw [mi_shr_nat (by omega) (by omega) (by omega), en, hv, hvv, ← vq]
      rfl
    have ea : (mm_shr (d - 1) (r - 1) &&& 1).toInt = i.val := by
      have : (mm_shr (d - 1) (r - 1) &&& 1).toInt = (mm_shr (d - 1) (r - 1)).toInt % 2 := mi_and _ 1 (by decide)
      rw [this, esh]
      omega
    refine ⟨s, r - 1, ?_, ?_, es, ?_, by omega, by omega, by omega, by omega, ?_⟩
    · unfold mf_96
      rw [if_neg c4, er, mq_Bs]
    · rw [if_neg c4]
      have e4 : (2 * (r - 1)).toInt = 2 * j.val := by rw [mi_mul, e2]; simp only [Int32.reduceToInt]; omega
      have e5 : (2 * (r - 1) + 2).toInt = 2 * j.val + 2 := by rw [mi_add, e4]; simp only [Int32.reduceToInt]; omega
      exact Int32.toInt_inj.mp (by rw [mi_add, e5, ea]; omega)
    · unfold mf_259
      have e6 : (s / 2).toInt = s.toInt / 2 := by rw [mi_div (by omega) (by decide)]; rfl
      have : s / 2 - 1 = r - 1 := Int32.toInt_inj.mp (by rw [mi_sub, e6, e2]; simp only [Int32.reduceToInt]; omega)
      rw [if_neg (by rw [Int32.lt_iff_toInt_lt]; simp only [Int32.reduceToInt]; omega), this]
    · rw [e258, l1, en, hvv]
      have : ((v : Int) % ((2 ^ j.val : Nat) : Int)) = ((v % 2 ^ j.val : Nat) : Int) := rfl
      rw [this]
      omega
/-- the low bits of a number are those of what is left by a power -/
theorem mi_bitmod {v w k : Int32} {e : Nat} (h0 : 0 ≤ v.toInt) (hw : w.toInt = v.toInt % ((2 ^ e : Nat) : Int)) (k0 : 0 ≤ k.toInt) (k1 : k.toInt < e) (he : e ≤ 31) : (mm_lshr v.toInt64 k).toInt32 &&& 1 = (mm_lshr w.toInt64 k).toInt32 &&& 1 := by
  rw [← mi_bitI k0 (by omega), ← mi_bitI k0 (by omega)]
  have pe : (0 : Int) < ((2 ^ e : Nat) : Int) := by
    have := Nat.pow_pos (n := e) (show 0 < 2 by decide)
    omega
  have w0 : 0 ≤ w.toInt := by rw [hw]; exact Int.emod_nonneg _ (by omega)
  have a1 : (mm_shr v k &&& 1).toInt = (mm_shr v k).toInt % 2 := mi_and _ 1 (by decide)
  have a2 : (mm_shr w k &&& 1).toInt = (mm_shr w k).toInt % 2 := mi_and _ 1 (by decide)
  refine Int32.toInt_inj.mp ?_
  rw [a1, a2, mi_shr_nat h0 k0 (by omega), mi_shr_nat w0 k0 (by omega), hw]
  obtain ⟨n, hn⟩ : ∃ n : Nat, v.toInt = n := ⟨v.toInt.toNat, by omega⟩
  rw [hn]
  have hk : k.toInt.toNat < e := by omega
  have t : (n / 2 ^ k.toInt.toNat) % 2 = (n % 2 ^ e / 2 ^ k.toInt.toNat) % 2 := by
    have h := Nat.testBit_mod_two_pow n e k.toInt.toNat
    rw [Nat.testBit_eq_decide_div_mod_eq, Nat.testBit_eq_decide_div_mod_eq] at h
    simp only [hk, decide_true, Bool.true_and, decide_eq_decide] at h
    omega
  have : (((n : Int) / ((2 ^ k.toInt.toNat : Nat) : Int)) % 2) = (((n / 2 ^ k.toInt.toNat) % 2 : Nat) : Int) := rfl
  rw [this, t]
  rfl
