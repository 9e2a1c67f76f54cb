/-! CODES BY LENGTHS: the numbers -/
/-- how many of the first n have the length l -/
def mc_ct (f : Nat → Nat) (l : Nat) : Nat → Nat
  | 0 => 0
  | n + 1 => mc_ct f l n + (if f n = l then 1 else 0)
def mc_cn (f : Nat → Nat) (n l : Nat) : Nat := if l = 0 then 0 else mc_ct f l n
/-- the first code of a length -/
def mc_F (f : Nat → Nat) (n : Nat) : Nat → Nat
  | 0 => 0
  | l + 1 => 2 * (mc_F f n l + mc_cn f n l)
def mc_G (f : Nat → Nat) (n l : Nat) : Nat := mc_F f n l + mc_cn f n l
/-- how many codes are shorter -/
def mc_H (f : Nat → Nat) (n : Nat) : Nat → Nat
  | 0 => 0
  | l + 1 => mc_H f n l + mc_cn f n l
theorem mc_ct_mono {f : Nat → Nat} {l : Nat} : ∀ {a b : Nat}, a ≤ b → mc_ct f l a ≤ mc_ct f l b
  | a, 0, h => by have : a = 0 := by omega
                  subst this; exact Nat.le_refl _
  | a, b + 1, h => by
    by_cases c : a = b + 1
    · subst c; exact Nat.le_refl _
    · have := mc_ct_mono (f := f) (l := l) (a := a) (b := b) (by omega)
      simp only [mc_ct]; omega
theorem mc_ct_lt {f : Nat → Nat} {l a b : Nat} (h : a < b) (ha : f a = l) : mc_ct f l a < mc_ct f l b := by
  have h1 : mc_ct f l (a + 1) ≤ mc_ct f l b := mc_ct_mono (by omega)
  have h2 : mc_ct f l (a + 1) = mc_ct f l a + 1 := by simp only [mc_ct]; rw [if_pos ha]
  omega
theorem mc_ct_le {f : Nat → Nat} {l : Nat} : ∀ n, mc_ct f l n ≤ n
  | 0 => Nat.le_refl _
  | n + 1 => by
    have := mc_ct_le (f := f) (l := l) n
    simp only [mc_ct]; split <;> omega
theorem mc_ct_inj {f : Nat → Nat} {l a b : Nat} (ha : f a = l) (hb : f b = l) (h : mc_ct f l a = mc_ct f l b) : a = b := by
  rcases Nat.lt_trichotomy a b with q | q | q
  · have := mc_ct_lt q ha; omega
  · exact q
  · have := mc_ct_lt q hb; omega
theorem mc_ct_ex {f : Nat → Nat} {l r : Nat} : ∀ {n : Nat}, r < mc_ct f l n → ∃ s, s < n ∧ f s = l ∧ mc_ct f l s = r
  | 0, h => by simp only [mc_ct] at h; omega
  | n + 1, h => by
    by_cases c : r < mc_ct f l n
    · obtain ⟨s, h1, h2⟩ := mc_ct_ex c
      exact ⟨s, by omega, h2⟩
    · simp only [mc_ct] at h
      by_cases d : f n = l
      · rw [if_pos d] at h
        exact ⟨n, by omega, d, by omega⟩
      · rw [if_neg d] at h; omega
theorem mc_G_succ {f : Nat → Nat} {n l : Nat} : mc_G f n (l + 1) = 2 * mc_G f n l + mc_cn f n (l + 1) := rfl
theorem mc_G_le {f : Nat → Nat} {n l : Nat} : ∀ k, mc_G f n l * 2 ^ k ≤ mc_G f n (l + k)
  | 0 => by simp
  | k + 1 => by
    have h := mc_G_le (f := f) (n := n) (l := l) k
    have e : mc_G f n (l + (k + 1)) = 2 * mc_G f n (l + k) + mc_cn f n (l + k + 1) := rfl
    rw [e, Nat.pow_succ, ← Nat.mul_assoc]
    omega
/-- a code of its own -/
def mc_c (f : Nat → Nat) (n s : Nat) : Nat := mc_F f n (f s) + mc_ct f (f s) s
theorem mc_c_lt {f : Nat → Nat} {n s : Nat} (hs : s < n) (h0 : f s ≠ 0) : mc_c f n s < mc_G f n (f s) := by
  unfold mc_c mc_G mc_cn
  rw [if_neg h0]
  have := mc_ct_lt (f := f) hs rfl
  omega
theorem mc_c_ge {f : Nat → Nat} {n s : Nat} : mc_F f n (f s) ≤ mc_c f n s := Nat.le_add_right _ _
theorem mc_c_ex {f : Nat → Nat} {n l v : Nat} (hl : l ≠ 0) (h1 : mc_F f n l ≤ v) (h2 : v < mc_G f n l) : ∃ s, s < n ∧ f s = l ∧ mc_c f n s = v := by
  unfold mc_G mc_cn at h2
  rw [if_neg hl] at h2
  obtain ⟨s, a, b, c⟩ := mc_ct_ex (f := f) (l := l) (r := v - mc_F f n l) (n := n) (by omega)
  refine ⟨s, a, b, ?_⟩
  unfold mc_c
  rw [b, c]; omega
theorem mc_c_inj {f : Nat → Nat} {n a b : Nat} (h : f a = f b) (hc : mc_c f n a = mc_c f n b) : a = b := by
  unfold mc_c at hc
  rw [h] at hc
  exact mc_ct_inj h rfl (by omega)
/-- what begins a longer code -/
theorem mc_begins {f : Nat → Nat} {n l v : Nat} (hf : ∀ s, s < n → f s ≤ 20) (hl : l ≤ 20) (hv : mc_G f n l ≤ v) : (∃ s, s < n ∧ l < f s ∧ mc_c f n s / 2 ^ (f s - l) = v) ↔ v * 2 ^ (20 - l) < mc_G f n 20 := by
  constructor
  · rintro ⟨s, hs, h1, h2⟩
    have h3 := mc_c_lt (f := f) hs (by omega)
    have h4 := mc_G_le (f := f) (n := n) (l := f s) (20 - f s)
    have h20 := hf s hs
    have e1 : f s + (20 - f s) = 20 := by omega
    rw [e1] at h4
    have h5 : v * 2 ^ (f s - l) ≤ mc_c f n s := by rw [← h2]; exact Nat.div_mul_le_self _ _
    have e2 : 20 - l = (f s - l) + (20 - f s) := by omega
    rw [e2, Nat.pow_add, ← Nat.mul_assoc]
    have hp : 0 < 2 ^ (20 - f s) := Nat.pow_pos (by decide)
    have h6 : v * 2 ^ (f s - l) * 2 ^ (20 - f s) ≤ mc_c f n s * 2 ^ (20 - f s) := Nat.mul_le_mul_right _ h5
    have h7 : mc_c f n s * 2 ^ (20 - f s) < mc_G f n (f s) * 2 ^ (20 - f s) := Nat.mul_lt_mul_of_pos_right h3 hp
    omega
  · intro h
    -- the least length at which it lies below
    have key : ∀ k, l + k ≤ 20 → v * 2 ^ k < mc_G f n (l + k) → ∃ s, s < n ∧ l < f s ∧ mc_c f n s / 2 ^ (f s - l) = v := by
      intro k
      induction k with
      | zero => intro _ q; simp at q; omega
      | succ k ih =>
        intro h1 h2
        by_cases c : v * 2 ^ k < mc_G f n (l + k)
        · exact ih (by omega) c
        · have e : mc_F f n (l + (k + 1)) = 2 * mc_G f n (l + k) := rfl
          have h3 : mc_F f n (l + (k + 1)) ≤ v * 2 ^ (k + 1) := by rw [e, Nat.pow_succ, ← Nat.mul_assoc]; omega
          obtain ⟨s, s1, s2, s3⟩ := mc_c_ex (f := f) (n := n) (l := l + (k + 1)) (by omega) h3 h2
          refine ⟨s, s1, by omega, ?_⟩
          have e2 : f s - l = k + 1 := by omega
          rw [s3, e2]
          exact Nat.mul_div_cancel _ (Nat.pow_pos (by decide))
    exact key (20 - l) (by omega) (by rw [show l + (20 - l) = 20 from by omega]; exact h)
theorem mc_H_le {f : Nat → Nat} {n : Nat} (l : Nat) : mc_H f n l + mc_cn f n l = mc_H f n (l + 1) := rfl
/-- the sum of 2 ^ (20 - length) -/
def mc_sp (f : Nat → Nat) : Nat → Nat
  | 0 => 0
  | n + 1 => mc_sp f n + (if f n = 0 then 0 else 2 ^ (20 - f n))
theorem mc_G_n {f : Nat → Nat} {n : Nat} : ∀ l, mc_G f (n + 1) l = mc_G f n l + (if f n = 0 ∨ l < f n then 0 else 2 ^ (l - f n))
  | 0 => by
    by_cases c : f n = 0
    · rw [if_pos (.inl c)]; rfl
    · rw [if_pos (.inr (by omega))]; rfl
  | l + 1 => by
    have ih := mc_G_n (f := f) (n := n) l
    rw [mc_G_succ, mc_G_succ, ih]
    have e : mc_cn f (n + 1) (l + 1) = mc_cn f n (l + 1) + (if f n = l + 1 then 1 else 0) := rfl
    rw [e]
    by_cases c : f n = 0
    · have h1 : f n = 0 ∨ l < f n := .inl c
      have h2 : f n = 0 ∨ l + 1 < f n := .inl c
      have h3 : ¬ f n = l + 1 := by omega
      rw [if_pos h1, if_pos h2, if_neg h3]; omega
    · by_cases d : l + 1 < f n
      · have h1 : f n = 0 ∨ l < f n := .inr (by omega)
        have h2 : f n = 0 ∨ l + 1 < f n := .inr d
        have h3 : ¬ f n = l + 1 := by omega
        rw [if_pos h1, if_pos h2, if_neg h3]; omega
      · have h2 : ¬ (f n = 0 ∨ l + 1 < f n) := by omega
        by_cases g : f n = l + 1
        · have h1 : f n = 0 ∨ l < f n := .inr (by omega)
          rw [if_pos h1, if_neg h2, if_pos g, g, Nat.sub_self]
          omega
        · have h1 : ¬ (f n = 0 ∨ l < f n) := by omega
          rw [if_neg h1, if_neg h2, if_neg g]
          have : l + 1 - f n = (l - f n) + 1 := by omega
          rw [this, Nat.pow_succ]; omega
theorem mc_G_0 {f : Nat → Nat} : ∀ l, mc_G f 0 l = 0
  | 0 => rfl
  | l + 1 => by
    rw [mc_G_succ, mc_G_0 l]
    unfold mc_cn; split <;> rfl
theorem mc_sp_G {f : Nat → Nat} : ∀ n, (∀ s, s < n → f s ≤ 20) → mc_sp f n = mc_G f n 20
  | 0, _ => (mc_G_0 20).symm
  | n + 1, h => by
    rw [mc_G_n]
    simp only [mc_sp]
    rw [mc_sp_G n (fun s hs => h s (by omega))]
    have := h n (by omega)
    by_cases c : f n = 0
    · rw [if_pos c, if_pos (.inl c)]
    · rw [if_neg c, if_neg (by omega)]
theorem mc_sp_le {f : Nat → Nat} (n : Nat) : mc_sp f n ≤ n * 1048576 := by
  induction n with
  | zero => exact Nat.zero_le _
  | succ n ih =>
    have h2 : 2 ^ (20 - f n) ≤ 1048576 := Nat.le_trans (Nat.pow_le_pow_right (by decide) (Nat.sub_le _ _)) (Nat.le_of_eq (by rfl))
    show mc_sp f n + (if f n = 0 then 0 else 2 ^ (20 - f n)) ≤ _
    rw [Nat.add_mul, Nat.one_mul]
    refine Nat.add_le_add ih ?_
    by_cases c : f n = 0
    · rw [if_pos c]; exact Nat.zero_le _
    · rw [if_neg c]; exact h2
/-- how many have a code -/
def mc_us (f : Nat → Nat) : Nat → Nat
  | 0 => 0
  | n + 1 => mc_us f n + (if f n = 0 then 0 else 1)
theorem mc_us_0 {f : Nat → Nat} : ∀ {n : Nat}, mc_us f n = 0 → ∀ s, s < n → f s = 0
  | 0, _, s, h => by omega
  | n + 1, h, s, hs => by
    simp only [mc_us] at h
    by_cases c : f n = 0
    · rw [if_pos c] at h
      by_cases d : s = n
      · subst d; exact c
      · exact mc_us_0 (n := n) (by omega) s (by omega)
    · rw [if_neg c] at h; omega
theorem mc_us_pos {f : Nat → Nat} : ∀ {n : Nat}, mc_us f n ≠ 0 → 0 < mc_sp f n
  | 0, h => absurd rfl h
  | n + 1, h => by
    simp only [mc_us] at h
    simp only [mc_sp]
    by_cases c : f n = 0
    · rw [if_pos c] at h
      have := mc_us_pos (n := n) (f := f) (by omega)
      omega
    · rw [if_neg c]
      have : 0 < 2 ^ (20 - f n) := Nat.pow_pos (by decide)
      omega
theorem mc_us_le {f : Nat → Nat} : ∀ n, mc_us f n ≤ n
  | 0 => Nat.le_refl _
  | n + 1 => by
    have := mc_us_le (f := f) n
    simp only [mc_us]; split <;> omega
theorem mc_H_n {f : Nat → Nat} {n : Nat} : ∀ l, mc_H f (n + 1) l = mc_H f n l + (if f n ≠ 0 ∧ f n < l then 1 else 0)
  | 0 => by simp [mc_H]
  | l + 1 => by
    have ih := mc_H_n (f := f) (n := n) l
    simp only [mc_H]
    rw [ih]
    unfold mc_cn
    by_cases c : l = 0
    · subst c
      rw [if_pos rfl, if_pos rfl, if_neg (show ¬ (f n ≠ 0 ∧ f n < 0) from by omega), if_neg (show ¬ (f n ≠ 0 ∧ f n < 0 + 1) from by omega)]
    · rw [if_neg c, if_neg c]
      simp only [mc_ct]
      by_cases d : f n = l
      · rw [if_neg (show ¬ (f n ≠ 0 ∧ f n < l) from by omega), if_pos d, if_pos (show f n ≠ 0 ∧ f n < l + 1 from by omega)]; omega
      · by_cases e : f n ≠ 0 ∧ f n < l
        · rw [if_pos e, if_neg d, if_pos (show f n ≠ 0 ∧ f n < l + 1 from by omega)]; omega
        · rw [if_neg e, if_neg d, if_neg (show ¬ (f n ≠ 0 ∧ f n < l + 1) from by omega)]; omega
theorem mc_H_0 {f : Nat → Nat} : ∀ l, mc_H f 0 l = 0
  | 0 => rfl
  | l + 1 => by
    simp only [mc_H]
    rw [mc_H_0 l]
    unfold mc_cn; split <;> rfl
theorem mc_H_us {f : Nat → Nat} {l : Nat} : ∀ n, mc_H f n l ≤ n
  | 0 => by rw [mc_H_0]; exact Nat.le_refl _
  | n + 1 => by
    have := mc_H_us (f := f) (l := l) n
    rw [mc_H_n]; split <;> omega
theorem mc_H_mono {f : Nat → Nat} {n a : Nat} : ∀ b, a ≤ b → mc_H f n a ≤ mc_H f n b
  | 0, h => by have : a = 0 := by omega
               subst this; exact Nat.le_refl _
  | b + 1, h => by
    by_cases c : a = b + 1
    · subst c; exact Nat.le_refl _
    · have := mc_H_mono (f := f) (n := n) (a := a) b (by omega)
      simp only [mc_H]; omega
