/-! SUMS: class and reference alike -/
def mq_F {β : Type} : mm_M → β → mm_M → Prop := fun _ _ _ => False
theorem mq_2_Lf {α β σ τ : Type} {Q : α → mm_M → β → mm_M → Prop} {s1 : σ → mm_M → mm_O (σ ⊕ α)} {s2 : τ → mm_M → mm_O (τ ⊕ β)} (I : σ → mm_M → τ → mm_M → Prop) (m : σ → mm_M → Nat) (hs : ∀ a M b N, I a M b N → mq_2 mq_F (s1 a M) (s2 b N) (fun r M2 t N2 => (∃ a2 b2, r = .inl a2 ∧ t = .inl b2 ∧ I a2 M2 b2 N2 ∧ m a2 M2 < m a M) ∨ (∃ u v, r = .inr u ∧ t = .inr v ∧ Q u M2 v N2))) {a : σ} {M : mm_M} {b : τ} {N : mm_M} (h : I a M b N) : mq_2 mq_F (mm_L s1 a M) (mm_L s2 b N) Q :=
  mq_2_L (E := mq_F) I (fun _ _ _ => False) m (fun a M b N h => mq_2_mono (hs a M b N h) (fun _ _ _ _ q => q) (fun _ _ _ q => q.elim)) (fun _ _ _ q => q.elim) h
theorem mq_2_Bf {α β γ δ : Type} {P : α → mm_M → β → mm_M → Prop} {R : γ → mm_M → δ → mm_M → Prop} {x : mm_O α} {y : mm_O β} {f : α → mm_M → mm_O γ} {g : β → mm_M → mm_O δ} (h : mq_2 mq_F x y P) (hs : ∀ a M b N, P a M b N → mq_2 mq_F (f a M) (g b N) R) : mq_2 mq_F (mm_B x f) (mm_B y g) R := mq_2_B h hs (fun _ _ _ q => q.elim)
/-- the same value, both memories as they were -/
def mq_e {α : Type} (M N : mm_M) : α → mm_M → α → mm_M → Prop := fun a M2 b N2 => a = b ∧ M2 = M ∧ N2 = N
theorem mi_and (x : Int32) (k : Nat) (hk : k < 31) : (x &&& Int32.ofNat (2 ^ k - 1)).toInt = x.toInt % ((2 ^ k : Nat) : Int) := by
  have hp : 2 ^ k ≤ 2 ^ 30 := Nat.pow_le_pow_right (by decide) (by omega)
  have h0 : 0 < 2 ^ k := Nat.pow_pos (by decide)
  have hv : (x &&& Int32.ofNat (2 ^ k - 1)).toBitVec.toNat = x.toBitVec.toNat % 2 ^ k := by
    show (x.toBitVec &&& BitVec.ofNat 32 (2 ^ k - 1)).toNat = _
    rw [BitVec.toNat_and, BitVec.toNat_ofNat, Nat.mod_eq_of_lt (by omega), Nat.and_two_pow_sub_one_eq_mod]
  have hl : x.toBitVec.toNat % 2 ^ k < 2 ^ k := Nat.mod_lt _ h0
  have e1 : (x &&& Int32.ofNat (2 ^ k - 1)).toInt = ((x.toBitVec.toNat % 2 ^ k : Nat) : Int) := by
    show (x &&& Int32.ofNat (2 ^ k - 1)).toBitVec.toInt = _
    rw [BitVec.toInt_eq_toNat_of_lt (by rw [hv]; omega), hv]
  rw [e1]
  show _ = x.toBitVec.toInt % _
  rw [BitVec.toInt_eq_toNat_cond]
  split
  · rw [Int.natCast_emod]
  · have hd : ((2 ^ 32 : Nat) : Int) = ((2 ^ k : Nat) : Int) * ((2 ^ (32 - k) : Nat) : Int) := by
      rw [← Int.natCast_mul, ← Nat.pow_add]; congr 2; omega
    rw [Int.natCast_emod, hd, Int.sub_mul_emod_self_left]
theorem mi_and1 (x : Int32) : x &&& 1 = 0 ∨ x &&& 1 = 1 := by
  have h := mi_and x 1 (by decide)
  have h2 : x &&& 1 = x &&& Int32.ofNat (2 ^ 1 - 1) := rfl
  rw [← h2] at h
  simp only [← Int32.toInt_inj, Int32.reduceToInt, h]
  omega
theorem mq_crc8 {p n q m : Nat} {v2 v4 w2 w4 x k : Int32} {M N : mm_M} (h : 0 ≤ k.toInt) : mq_2 mq_F (mf_28_L21 p n v2 v4 (x, k) M) (mf_182_L21 q m w2 w4 (x, k) N) (mq_e M N) := by
  unfold mf_28_L21 mf_182_L21
  refine mq_2_Lf (I := fun a M2 b N2 => a = b ∧ M2 = M ∧ N2 = N ∧ 0 ≤ a.2.toInt) (m := fun a _ => (8 - a.2.toInt).toNat) ?_ ⟨rfl, rfl, rfl, h⟩
  rintro ⟨x, k⟩ M2 b N2 ⟨rfl, rfl, rfl, h⟩
  unfold mf_28_b21 mf_182_b21
  dsimp only at h ⊢
  by_cases c : k < 8
  · rw [if_pos c, if_pos c]
    rw [Int32.lt_iff_toInt_lt] at c
    simp only [Int32.reduceToInt] at c
    have d : 0 ≤ (k + 1).toInt ∧ (8 - (k + 1).toInt).toNat < (8 - k.toInt).toNat := by rw [mi_add]; simp only [Int32.reduceToInt]; omega
    rcases mi_and1 x with e | e
    · rw [if_pos e, if_neg (by rw [e]; decide)]
      exact mq_2_ret (.inl ⟨_, _, rfl, rfl, ⟨rfl, rfl, rfl, d.1⟩, d.2⟩)
    · rw [if_neg (by rw [e]; decide), if_pos e]
      exact mq_2_ret (.inl ⟨_, _, rfl, rfl, ⟨rfl, rfl, rfl, d.1⟩, d.2⟩)
  · rw [if_neg c, if_neg c]
    exact mq_2_ret (.inr ⟨_, _, rfl, rfl, rfl, rfl, rfl⟩)
theorem mq_crc {p n q m : Nat} {v1 v2 : Int32} {M N : mm_M} (h0 : 0 ≤ v1.toInt) (hn : v2.toInt ≤ n) (hm : v2.toInt ≤ m) (he : ∀ j : Nat, v1.toInt ≤ j → (j : Int) < v2.toInt → M.1 p j = N.1 q j) : mq_2 mq_F (mf_28 p n v1 v2 M) (mf_182 q m v1 v2 N) (mq_e M N) := by
  unfold mf_28 mf_182
  refine mq_2_Bf (P := mq_e M N) ?_ ?_
  · unfold mf_28_L5 mf_182_L5
    refine mq_2_Lf (I := fun a M2 b N2 => a = b ∧ M2 = M ∧ N2 = N ∧ v1.toInt ≤ a.2.toInt) (m := fun a _ => (v2.toInt - a.2.toInt).toNat) ?_ ⟨rfl, rfl, rfl, Int.le_refl _⟩
    rintro ⟨x, k⟩ M2 b N2 ⟨rfl, rfl, rfl, h⟩
    unfold mf_28_b5 mf_182_b5
    dsimp only at h ⊢
    by_cases c : k < v2
    · rw [if_pos c, if_pos c]
      rw [Int32.lt_iff_toInt_lt] at c
      rw [if_pos (mq_inr (by omega) (by omega)), if_pos (mq_inr (by omega) (by omega)), he k.toNatClampNeg (by rw [mq_cl]; omega) (by rw [mq_cl]; omega)]
      have d : v1.toInt ≤ (k + 1).toInt ∧ (v2.toInt - (k + 1).toInt).toNat < (v2.toInt - k.toInt).toNat := by
        have := mq_hi v2
        rw [mi_add]; simp only [Int32.reduceToInt]; omega
      refine mq_2_Bf (mq_crc8 (by decide)) ?_
      rintro a M3 b N3 ⟨rfl, rfl, rfl⟩
      exact mq_2_ret (.inl ⟨_, _, rfl, rfl, ⟨rfl, rfl, rfl, d.1⟩, d.2⟩)
    · rw [if_neg c, if_neg c]
      exact mq_2_ret (.inr ⟨_, _, rfl, rfl, rfl, rfl, rfl⟩)
  · rintro a M3 b N3 ⟨rfl, rfl, rfl⟩
    exact mq_2_ret ⟨rfl, rfl, rfl⟩
theorem mq_crh8 {p n q m : Nat} {v2 v4 w2 w4 x k : Int32} {M N : mm_M} (h : 0 ≤ k.toInt) : mq_2 mq_F (mf_29_L24 p n v2 v4 (x, k) M) (mf_183_L24 q m w2 w4 (x, k) N) (mq_e M N) := by
  unfold mf_29_L24 mf_183_L24
  refine mq_2_Lf (I := fun a M2 b N2 => a = b ∧ M2 = M ∧ N2 = N ∧ 0 ≤ a.2.toInt) (m := fun a _ => (8 - a.2.toInt).toNat) ?_ ⟨rfl, rfl, rfl, h⟩
  rintro ⟨x, k⟩ M2 b N2 ⟨rfl, rfl, rfl, h⟩
  unfold mf_29_b24 mf_183_b24
  dsimp only at h ⊢
  by_cases c : k < 8
  · rw [if_pos c, if_pos c]
    rw [Int32.lt_iff_toInt_lt] at c
    simp only [Int32.reduceToInt] at c
    have d : 0 ≤ (k + 1).toInt ∧ (8 - (k + 1).toInt).toNat < (8 - k.toInt).toNat := by rw [mi_add]; simp only [Int32.reduceToInt]; omega
    by_cases e : x < 0
    · rw [if_pos e, if_pos e]
      exact mq_2_ret (.inl ⟨_, _, rfl, rfl, ⟨rfl, rfl, rfl, d.1⟩, d.2⟩)
    · rw [if_neg e, if_neg e]
      exact mq_2_ret (.inl ⟨_, _, rfl, rfl, ⟨rfl, rfl, rfl, d.1⟩, d.2⟩)
  · rw [if_neg c, if_neg c]
    exact mq_2_ret (.inr ⟨_, _, rfl, rfl, rfl, rfl, rfl⟩)
theorem mq_crh {p n q m : Nat} {v1 v2 : Int32} {M N : mm_M} (h0 : 0 ≤ v1.toInt) (hn : v2.toInt ≤ n) (hm : v2.toInt ≤ m) (he : ∀ j : Nat, v1.toInt ≤ j → (j : Int) < v2.toInt → M.1 p j = N.1 q j) : mq_2 mq_F (mf_29 p n v1 v2 M) (mf_183 q m v1 v2 N) (mq_e M N) := by
  unfold mf_29 mf_183
  refine mq_2_Bf (P := mq_e M N) ?_ ?_
  · unfold mf_29_L5 mf_183_L5
    refine mq_2_Lf (I := fun a M2 b N2 => a = b ∧ M2 = M ∧ N2 = N ∧ v1.toInt ≤ a.2.toInt) (m := fun a _ => (v2.toInt - a.2.toInt).toNat) ?_ ⟨rfl, rfl, rfl, Int.le_refl _⟩
    rintro ⟨x, k⟩ M2 b N2 ⟨rfl, rfl, rfl, h⟩
    unfold mf_29_b5 mf_183_b5
    dsimp only at h ⊢
    by_cases c : k < v2
    · rw [if_pos c, if_pos c]
      rw [Int32.lt_iff_toInt_lt] at c
      rw [if_pos (mq_inr (by omega) (by omega)), if_pos (mq_inr (by omega) (by omega)), he k.toNatClampNeg (by rw [mq_cl]; omega) (by rw [mq_cl]; omega)]
      have d : v1.toInt ≤ (k + 1).toInt ∧ (v2.toInt - (k + 1).toInt).toNat < (v2.toInt - k.toInt).toNat := by
        have := mq_hi v2
        rw [mi_add]; simp only [Int32.reduceToInt]; omega
      refine mq_2_Bf (mq_crh8 (by decide)) ?_
      rintro a M3 b N3 ⟨rfl, rfl, rfl⟩
      exact mq_2_ret (.inl ⟨_, _, rfl, rfl, ⟨rfl, rfl, rfl, d.1⟩, d.2⟩)
    · rw [if_neg c, if_neg c]
      exact mq_2_ret (.inr ⟨_, _, rfl, rfl, rfl, rfl, rfl⟩)
  · rintro a M3 b N3 ⟨rfl, rfl, rfl⟩
    exact mq_2_ret ⟨rfl, rfl, rfl⟩
theorem mq_adl {p n q m : Nat} {v1 v2 : Int32} {M N : mm_M} (h0 : 0 ≤ v1.toInt) (hn : v2.toInt ≤ n) (hm : v2.toInt ≤ m) (he : ∀ j : Nat, v1.toInt ≤ j → (j : Int) < v2.toInt → M.1 p j = N.1 q j) : mq_2 mq_F (mf_30 p n v1 v2 M) (mf_184 q m v1 v2 N) (mq_e M N) := by
  unfold mf_30 mf_184
  refine mq_2_Bf (P := mq_e M N) ?_ ?_
  · unfold mf_30_L8 mf_184_L8
    refine mq_2_Lf (I := fun a M2 b N2 => a = b ∧ M2 = M ∧ N2 = N ∧ v1.toInt ≤ a.2.2.toInt) (m := fun a _ => (v2.toInt - a.2.2.toInt).toNat) ?_ ⟨rfl, rfl, rfl, Int.le_refl _⟩
    rintro ⟨x, y, k⟩ M2 b N2 ⟨rfl, rfl, rfl, h⟩
    unfold mf_30_b8 mf_184_b8
    dsimp only at h ⊢
    by_cases c : k < v2
    · rw [if_pos c, if_pos c]
      rw [Int32.lt_iff_toInt_lt] at c
      rw [if_pos (mq_inr (by omega) (by omega)), if_pos (mq_inr (by omega) (by omega)), he k.toNatClampNeg (by rw [mq_cl]; omega) (by rw [mq_cl]; omega)]
      have d : v1.toInt ≤ (k + 1).toInt ∧ (v2.toInt - (k + 1).toInt).toNat < (v2.toInt - k.toInt).toNat := by
        have := mq_hi v2
        rw [mi_add]; simp only [Int32.reduceToInt]; omega
      exact mq_2_ret (.inl ⟨_, _, rfl, rfl, ⟨rfl, rfl, rfl, d.1⟩, d.2⟩)
    · rw [if_neg c, if_neg c]
      exact mq_2_ret (.inr ⟨_, _, rfl, rfl, rfl, rfl, rfl⟩)
  · rintro a M3 b N3 ⟨rfl, rfl, rfl⟩
    exact mq_2_ret ⟨rfl, rfl, rfl⟩
theorem mq_word {p n q m : Nat} {v v1 v2 : Int32} {M N : mm_M} (h0 : 0 ≤ v1.toInt) (h1 : v1.toInt ≤ v.toInt) (h3 : v.toInt + 3 < v2.toInt) (hn : v2.toInt ≤ n) (hm : v2.toInt ≤ m) (he : ∀ j : Nat, v1.toInt ≤ j → (j : Int) < v2.toInt → M.1 p j = N.1 q j) : ∃ w, mf_33 p n v M = some (.inl w, M) ∧ mf_186 q m v N = some (.inl w, N) := by
  have := mq_hi v2
  have e1 : (v + 1).toInt = v.toInt + 1 := by rw [mi_add]; simp only [Int32.reduceToInt]; omega
  have e2 : (v + 2).toInt = v.toInt + 2 := by rw [mi_add]; simp only [Int32.reduceToInt]; omega
  have e3 : (v + 3).toInt = v.toInt + 3 := by rw [mi_add]; simp only [Int32.reduceToInt]; omega
  unfold mf_33 mf_186
  rw [if_pos (mq_inr (by omega) (by omega)), if_pos (mq_inr (by omega) (by omega)), if_pos (mq_inr (by omega) (by omega)), if_pos (mq_inr (by omega) (by omega)), if_pos (mq_inr (by omega) (by omega)), if_pos (mq_inr (by omega) (by omega)), if_pos (mq_inr (by omega) (by omega)), if_pos (mq_inr (by omega) (by omega))]
  refine ⟨_, rfl, ?_⟩
  rw [he v.toNatClampNeg (by rw [mq_cl]; omega) (by rw [mq_cl]; omega), he (v + 1).toNatClampNeg (by rw [mq_cl]; omega) (by rw [mq_cl]; omega), he (v + 2).toNatClampNeg (by rw [mq_cl]; omega) (by rw [mq_cl]; omega), he (v + 3).toNatClampNeg (by rw [mq_cl]; omega) (by rw [mq_cl]; omega)]
theorem mq_xx4 {p n q m : Nat} {v1 v2 k x : Int32} {M N : mm_M} (h0 : 0 ≤ v1.toInt) (h1 : v1.toInt ≤ k.toInt) (h2 : k.toInt ≤ v2.toInt) (hb : v2.toInt ≤ 100000) (hn : v2.toInt ≤ n) (hm : v2.toInt ≤ m) (he : ∀ j : Nat, v1.toInt ≤ j → (j : Int) < v2.toInt → M.1 p j = N.1 q j) : mq_2 mq_F (mf_31_L187 p n v2 (k, x) M) (mf_188_L145 q m v2 (k, x) N) (fun a M2 b N2 => a = b ∧ M2 = M ∧ N2 = N ∧ v1.toInt ≤ a.1.toInt) := by
  unfold mf_31_L187 mf_188_L145
  refine mq_2_Lf (I := fun a M2 b N2 => a = b ∧ M2 = M ∧ N2 = N ∧ v1.toInt ≤ a.1.toInt ∧ a.1.toInt ≤ v2.toInt) (m := fun a _ => (v2.toInt - a.1.toInt).toNat) ?_ ⟨rfl, rfl, rfl, h1, h2⟩
  rintro ⟨k, x⟩ M2 b N2 ⟨rfl, rfl, rfl, h, h2⟩
  unfold mf_31_b187 mf_188_b145
  dsimp only at h h2 ⊢
  have e4 : (k + 4).toInt = k.toInt + 4 := by rw [mi_add]; simp only [Int32.reduceToInt]; omega
  have e5 : (v2 - k).toInt = v2.toInt - k.toInt := by rw [mi_sub]; omega
  by_cases c : v2 < k + 4
  · rw [if_pos c, if_pos (by rw [Int32.lt_iff_toInt_lt] at c ⊢; simp only [Int32.reduceToInt]; omega)]
    exact mq_2_ret (.inr ⟨_, _, rfl, rfl, rfl, rfl, rfl, h⟩)
  · rw [if_neg c, if_neg (by rw [Int32.lt_iff_toInt_lt] at c ⊢; simp only [Int32.reduceToInt]; omega)]
    rw [Int32.lt_iff_toInt_lt] at c
    obtain ⟨w, w1, w2⟩ := mq_word (v := k) h0 (by omega) (by omega) hn hm he
    rw [w1, w2]
    exact mq_2_ret (.inl ⟨_, _, rfl, rfl, ⟨rfl, rfl, rfl, by dsimp only; omega, by dsimp only; omega⟩, by dsimp only; omega⟩)
theorem mq_xx1 {p n q m : Nat} {v1 v2 k x : Int32} {M N : mm_M} (h0 : 0 ≤ v1.toInt) (h1 : v1.toInt ≤ k.toInt) (hb : v2.toInt ≤ 100000) (hn : v2.toInt ≤ n) (hm : v2.toInt ≤ m) (he : ∀ j : Nat, v1.toInt ≤ j → (j : Int) < v2.toInt → M.1 p j = N.1 q j) : mq_2 mq_F (mf_31_L223 p n v2 (k, x) M) (mf_188_L181 q m v2 (k, x) N) (mq_e M N) := by
  unfold mf_31_L223 mf_188_L181
  refine mq_2_Lf (I := fun a M2 b N2 => a = b ∧ M2 = M ∧ N2 = N ∧ v1.toInt ≤ a.1.toInt) (m := fun a _ => (v2.toInt - a.1.toInt).toNat) ?_ ⟨rfl, rfl, rfl, h1⟩
  rintro ⟨k, x⟩ M2 b N2 ⟨rfl, rfl, rfl, h⟩
  unfold mf_31_b223 mf_188_b181
  dsimp only at h ⊢
  by_cases c : k < v2
  · rw [if_pos c, if_pos c]
    rw [Int32.lt_iff_toInt_lt] at c
    have e4 : (k + 1).toInt = k.toInt + 1 := by rw [mi_add]; simp only [Int32.reduceToInt]; omega
    rw [if_pos (mq_inr (by omega) (by omega)), if_pos (mq_inr (by omega) (by omega)), he k.toNatClampNeg (by rw [mq_cl]; omega) (by rw [mq_cl]; omega)]
    exact mq_2_ret (.inl ⟨_, _, rfl, rfl, ⟨rfl, rfl, rfl, by dsimp only; omega⟩, by dsimp only; omega⟩)
  · rw [if_neg c, if_neg c]
    exact mq_2_ret (.inr ⟨_, _, rfl, rfl, rfl, rfl, rfl⟩)
theorem mq_xx16 {p n q m : Nat} {v1 v2 w3 k x1 x2 x3 x4 : Int32} {M N : mm_M} (h0 : 0 ≤ v1.toInt) (h1 : v1.toInt ≤ k.toInt) (h2 : k.toInt ≤ v2.toInt) (hb : v2.toInt ≤ 100000) (hn : v2.toInt ≤ n) (hm : v2.toInt ≤ m) (he : ∀ j : Nat, v1.toInt ≤ j → (j : Int) < v2.toInt → M.1 p j = N.1 q j) : mq_2 mq_F (mf_31_L33 p n v1 v2 (k, x1, x2, x3, x4) M) (mf_188_L32 q m v2 w3 (k, x1, x2, x3, x4) N) (fun a M2 b N2 => a = b ∧ M2 = M ∧ N2 = N ∧ v1.toInt ≤ a.1.toInt ∧ a.1.toInt ≤ v2.toInt) := by
  unfold mf_31_L33 mf_188_L32
  refine mq_2_Lf (I := fun a M2 b N2 => a = b ∧ M2 = M ∧ N2 = N ∧ v1.toInt ≤ a.1.toInt ∧ a.1.toInt ≤ v2.toInt) (m := fun a _ => (v2.toInt - a.1.toInt).toNat) ?_ ⟨rfl, rfl, rfl, h1, h2⟩
  rintro ⟨k, x1, x2, x3, x4⟩ M2 b N2 ⟨rfl, rfl, rfl, h, h2⟩
  unfold mf_31_b33 mf_188_b32
  dsimp only at h h2 ⊢
  have e4 : (k + 16).toInt = k.toInt + 16 := by rw [mi_add]; simp only [Int32.reduceToInt]; omega
  have f4 : (k + 4).toInt = k.toInt + 4 := by rw [mi_add]; simp only [Int32.reduceToInt]; omega
  have f8 : (k + 8).toInt = k.toInt + 8 := by rw [mi_add]; simp only [Int32.reduceToInt]; omega
  have f12 : (k + 12).toInt = k.toInt + 12 := by rw [mi_add]; simp only [Int32.reduceToInt]; omega
  have e5 : (v2 - k).toInt = v2.toInt - k.toInt := by rw [mi_sub]; omega
  by_cases c : v2 < k + 16
  · rw [if_pos c, if_pos (by rw [Int32.lt_iff_toInt_lt] at c ⊢; simp only [Int32.reduceToInt]; omega)]
    exact mq_2_ret (.inr ⟨_, _, rfl, rfl, rfl, rfl, rfl, h, h2⟩)
  · rw [if_neg c, if_neg (by rw [Int32.lt_iff_toInt_lt] at c ⊢; simp only [Int32.reduceToInt]; omega)]
    rw [Int32.lt_iff_toInt_lt] at c
    obtain ⟨w, w1, w2⟩ := mq_word (v := k) h0 (by omega) (by omega) hn hm he
    obtain ⟨x, y1, y2⟩ := mq_word (v := k + 4) h0 (by omega) (by omega) hn hm he
    obtain ⟨z, z1, z2⟩ := mq_word (v := k + 8) h0 (by omega) (by omega) hn hm he
    obtain ⟨u, u1, u2⟩ := mq_word (v := k + 12) h0 (by omega) (by omega) hn hm he
    simp only [w1, w2, y1, y2, z1, z2, u1, u2, mm_B, mf_32, mf_185, mf_187]
    exact mq_2_ret (.inl ⟨_, _, rfl, rfl, ⟨rfl, rfl, rfl, by dsimp only; omega, by dsimp only; omega⟩, by dsimp only; omega⟩)
theorem mq_xx {p n q m : Nat} {v1 v2 : Int32} {M N : mm_M} (h0 : 0 ≤ v1.toInt) (h2 : v1.toInt ≤ v2.toInt) (hb : v2.toInt ≤ 100000) (hn : v2.toInt ≤ n) (hm : v2.toInt ≤ m) (he : ∀ j : Nat, v1.toInt ≤ j → (j : Int) < v2.toInt → M.1 p j = N.1 q j) : mq_2 mq_F (mf_31 p n v1 v2 M) (mf_188 q m v1 v2 N) (mq_e M N) := by
  unfold mf_31 mf_188
  by_cases c : v2 - v1 < 16
  · rw [if_pos c, if_pos c]
    refine mq_2_Bf (mq_xx4 h0 (Int.le_refl _) h2 hb hn hm he) ?_
    rintro ⟨k, x⟩ M3 b N3 ⟨rfl, rfl, rfl, h⟩
    refine mq_2_Bf (mq_xx1 h0 h hb hn hm he) ?_
    rintro a M3 b N3 ⟨rfl, rfl, rfl⟩
    exact mq_2_ret ⟨rfl, rfl, rfl⟩
  · rw [if_neg c, if_neg c]
    refine mq_2_Bf (mq_xx16 h0 (Int.le_refl _) h2 hb hn hm he) ?_
    rintro ⟨k, x1, x2, x3, x4⟩ M3 b N3 ⟨rfl, rfl, rfl, h, h3⟩
    simp only [mf_31_j147, mf_188_j107, mm_B, mf_32, mf_185]
    refine mq_2_Bf (mq_xx4 h0 h h3 hb hn hm he) ?_
    rintro ⟨k, x⟩ M3 b N3 ⟨rfl, rfl, rfl, h⟩
    refine mq_2_Bf (mq_xx1 h0 h hb hn hm he) ?_
    rintro a M3 b N3 ⟨rfl, rfl, rfl⟩
    exact mq_2_ret ⟨rfl, rfl, rfl⟩
