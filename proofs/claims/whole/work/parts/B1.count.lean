/-! TURNINGS: counting -/
section TC
theorem mc_sum_le {f g : Nat → Nat} : ∀ {n : Nat}, (∀ j, j < n → f j ≤ g j) → mc_sum f n ≤ mc_sum g n
  | 0, _ => Nat.le_refl _
  | n + 1, h => by
    have h1 := mc_sum_le (n := n) (fun j hj => h j (by omega))
    have h2 := h n (by omega)
    show mc_sum f n + f n ≤ mc_sum g n + g n
    omega
theorem mc_sum_mono {f : Nat → Nat} {a : Nat} : ∀ {b : Nat}, a ≤ b → mc_sum f a ≤ mc_sum f b
  | 0, h => by rw [show a = 0 from by omega]; exact Nat.le_refl _
  | b + 1, h => by
    by_cases c : a = b + 1
    · rw [c]; exact Nat.le_refl _
    · have := mc_sum_mono (f := f) (a := a) (b := b) (by omega)
      show mc_sum f a ≤ mc_sum f b + f b
      omega
theorem mc_sum_add {f g : Nat → Nat} : ∀ {n : Nat}, mc_sum (fun j => f j + g j) n = mc_sum f n + mc_sum g n
  | 0 => rfl
  | n + 1 => by
    show mc_sum (fun j => f j + g j) n + (f n + g n) = mc_sum f n + f n + (mc_sum g n + g n)
    rw [mc_sum_add]
    omega
theorem mc_sum_one : ∀ {n : Nat}, mc_sum (fun _ => 1) n = n
  | 0 => rfl
  | n + 1 => by
    show mc_sum (fun _ => 1) n + 1 = n + 1
    rw [mc_sum_one]
theorem mc_sum_v {f g : Nat → Nat} {i : Nat} : ∀ {n : Nat}, i < n → (∀ j, j < n → j ≠ i → g j = f j) → mc_sum g n + f i = mc_sum f n + g i
  | 0, h, _ => by omega
  | n + 1, h, e => by
    show mc_sum g n + g n + f i = mc_sum f n + f n + g i
    by_cases c : i = n
    · subst c
      rw [mc_sum_c (n := i) (f := g) (g := f) (fun j hj => e j (by omega) (by omega))]
      omega
    · have ih := mc_sum_v (n := n) (f := f) (g := g) (i := i) (by omega) (fun j hj hne => e j (by omega) hne)
      rw [e n (by omega) (fun q => c q.symm)]
      omega
/-- a sum over all numbers below n, in another order -/
theorem mc_sum_P : ∀ {n : Nat} {g : Nat → Nat} (w : Nat → Nat), (∀ i, i < n → g i < n) → (∀ i j, i < n → j < n → g i = g j → i = j) → mc_sum (fun i => w (g i)) n = mc_sum w n
  | 0, _, _, _, _ => rfl
  | n + 1, g, w, h, hi => by
    have r1 : ∀ i, i < n → (if g i = n then g n else g i) < n := fun i hin => by
      by_cases c : g i = n
      · rw [if_pos c]
        have h1 := h n (by omega)
        have h2 : g n ≠ n := fun q => by
          have := hi i n (by omega) (by omega) (by omega)
          omega
        omega
      · rw [if_neg c]
        have := h i (by omega)
        omega
    have r2 : ∀ i j, i < n → j < n → (if g i = n then g n else g i) = (if g j = n then g n else g j) → i = j := fun i j i1 j1 e => by
      by_cases c : g i = n
      · rw [if_pos c] at e
        by_cases d : g j = n
        · exact hi i j (by omega) (by omega) (by omega)
        · rw [if_neg d] at e
          have := hi n j (by omega) (by omega) e
          omega
      · rw [if_neg c] at e
        by_cases d : g j = n
        · rw [if_pos d] at e
          have := hi i n (by omega) (by omega) e
          omega
        · rw [if_neg d] at e
          exact hi i j (by omega) (by omega) e
    have ih := mc_sum_P (n := n) (g := fun i => if g i = n then g n else g i) w r1 r2
    show mc_sum (fun i => w (g i)) n + w (g n) = mc_sum w n + w n
    by_cases q : g n = n
    · have : mc_sum (fun i => w (g i)) n = mc_sum (fun i => w (if g i = n then g n else g i)) n := mc_sum_c (fun j hj => by
        by_cases c : g j = n
        · have := hi j n (by omega) (by omega) (by omega)
          omega
        · rw [if_neg c])
      rw [this, ih, q]
    · obtain ⟨k, k1, k2⟩ := mt_pig h hi n (by omega)
      have kn : k < n := by
        by_cases c : k = n
        · rw [c] at k2; exact absurd k2 q
        · omega
      have u := mc_sum_v (f := fun i => w (g i)) (g := fun i => w (if g i = n then g n else g i)) (i := k) (n := n) kn (fun j hj hne => by
        by_cases c : g j = n
        · have := hi j k (by omega) (by omega) (by omega)
          omega
        · rw [if_neg c])
      rw [ih, k2, if_pos rfl] at u
      omega
/-- counting sort: where the i-th goes -/
def mt_C (r : Nat → Nat) (n k : Nat) : Nat := mc_sum (fun x => if r x < k then 1 else 0) n
def mt_E (r : Nat → Nat) (n k : Nat) : Nat := mc_sum (fun x => if r x = k then 1 else 0) n
def mt_tp (r s : Nat → Nat) (n i : Nat) : Nat := mt_C r n (r (s i)) + mc_sum (fun j => if r (s j) = r (s i) then 1 else 0) i
theorem mt_C_s {r : Nat → Nat} {n k : Nat} : mt_C r n (k + 1) = mt_C r n k + mt_E r n k := by
  unfold mt_C mt_E
  rw [← mc_sum_add]
  refine mc_sum_c (fun j _ => ?_)
  by_cases c : r j < k
  · rw [if_pos c, if_pos (by omega), if_neg (by omega)]
  · by_cases d : r j = k
    · rw [if_neg c, if_pos (by omega), if_pos d]
    · rw [if_neg c, if_neg (by omega), if_neg d]
theorem mt_C_m {r : Nat → Nat} {n k l : Nat} (h : k ≤ l) : mt_C r n k ≤ mt_C r n l := mc_sum_le (fun j _ => by
  by_cases c : r j < k
  · rw [if_pos c, if_pos (by omega)]; exact Nat.le_refl _
  · rw [if_neg c]; exact Nat.zero_le _)
theorem mt_C_n {r : Nat → Nat} {n k : Nat} : mt_C r n k ≤ n := by
  have : mt_C r n k ≤ mc_sum (fun _ => 1) n := mc_sum_le (fun j _ => by
    by_cases c : r j < k
    · rw [if_pos c]; exact Nat.le_refl _
    · rw [if_neg c]; exact Nat.zero_le _)
  rw [mc_sum_one] at this
  exact this
theorem mt_tp_lt {r s : Nat → Nat} {n i : Nat} (hs : mt_P n s) (hi : i < n) : mt_tp r s n i < mt_C r n (r (s i) + 1) := by
  rw [mt_C_s]
  unfold mt_tp
  have e : mt_E r n (r (s i)) = mc_sum (fun j => if r (s j) = r (s i) then 1 else 0) n := (mc_sum_P (fun x => if r x = r (s i) then 1 else 0) hs.1 hs.2.1).symm
  have m := mc_sum_mono (f := fun j => if r (s j) = r (s i) then 1 else 0) (a := i + 1) (b := n) hi
  have m2 : mc_sum (fun j => if r (s j) = r (s i) then 1 else 0) (i + 1) = mc_sum (fun j => if r (s j) = r (s i) then 1 else 0) i + 1 := by
    show mc_sum _ i + (if r (s i) = r (s i) then 1 else 0) = _
    rw [if_pos rfl]
  rw [e]
  omega
theorem mt_tp_n {r s : Nat → Nat} {n i : Nat} (hs : mt_P n s) (hi : i < n) : mt_tp r s n i < n := by
  have h1 := mt_tp_lt (r := r) hs hi
  have h2 := mt_C_n (r := r) (n := n) (k := r (s i) + 1)
  omega
theorem mt_tp_m {r s : Nat → Nat} {n i j : Nat} (hs : mt_P n s) (hi : i < n) (h : r (s i) < r (s j) ∨ (r (s i) = r (s j) ∧ i < j)) : mt_tp r s n i < mt_tp r s n j := by
  rcases h with h | ⟨h, h2⟩
  · have h1 := mt_tp_lt (r := r) hs hi
    have h2 := mt_C_m (r := r) (n := n) (show r (s i) + 1 ≤ r (s j) from h)
    unfold mt_tp at h1 ⊢
    omega
  · unfold mt_tp
    rw [h]
    have m := mc_sum_mono (f := fun x => if r (s x) = r (s j) then 1 else 0) (a := i + 1) (b := j) h2
    have m2 : mc_sum (fun x => if r (s x) = r (s j) then 1 else 0) (i + 1) = mc_sum (fun x => if r (s x) = r (s j) then 1 else 0) i + 1 := by
      show mc_sum _ i + (if r (s i) = r (s j) then 1 else 0) = _
      rw [if_pos h]
    omega
theorem mt_tp_i {r s : Nat → Nat} {n i j : Nat} (hs : mt_P n s) (hi : i < n) (hj : j < n) (h : mt_tp r s n i = mt_tp r s n j) : i = j := by
  rcases Nat.lt_trichotomy (r (s i)) (r (s j)) with c | c | c
  · have := mt_tp_m hs hi (.inl c); omega
  · rcases Nat.lt_trichotomy i j with d | d | d
    · have := mt_tp_m hs hi (.inr ⟨c, d⟩); omega
    · exact d
    · have := mt_tp_m hs hj (.inr ⟨c.symm, d⟩); omega
  · have := mt_tp_m hs hj (.inl c); omega
/-- what a counting sort comes to -/
theorem mt_sorted {r s o : Nat → Nat} {n : Nat} (hs : mt_P n s) (ho : ∀ i, i < n → o (mt_tp r s n i) = s i) : mt_P n o ∧ ∀ p q, p < q → q < n → ∃ i j, i < n ∧ j < n ∧ o p = s i ∧ o q = s j ∧ (r (s i) < r (s j) ∨ (r (s i) = r (s j) ∧ i < j)) := by
  have hp : mt_P n (mt_tp r s n) := mt_P_of (fun i hi => mt_tp_n hs hi) (fun i j hi hj h => mt_tp_i hs hi hj h)
  refine ⟨mt_P_of (fun p hp2 => ?_) (fun p q p1 q1 e => ?_), fun p q pq q1 => ?_⟩
  · obtain ⟨i, i1, rfl⟩ := hp.2.2 p hp2
    rw [ho i i1]
    exact hs.1 i i1
  · obtain ⟨i, i1, rfl⟩ := hp.2.2 p p1
    obtain ⟨j, j1, rfl⟩ := hp.2.2 q q1
    rw [ho i i1, ho j j1] at e
    rw [hs.2.1 i j i1 j1 e]
  · obtain ⟨i, i1, rfl⟩ := hp.2.2 p (by omega)
    obtain ⟨j, j1, rfl⟩ := hp.2.2 q q1
    refine ⟨i, j, i1, j1, ho i i1, ho j j1, ?_⟩
    rcases Nat.lt_trichotomy (r (s i)) (r (s j)) with c | c | c
    · exact .inl c
    · rcases Nat.lt_trichotomy i j with d | d | d
      · exact .inr ⟨c, d⟩
      · rw [d] at pq; omega
      · have := mt_tp_m (r := r) hs j1 (.inr ⟨c.symm, d⟩); omega
    · have := mt_tp_m (r := r) hs j1 (.inl c); omega
end TC
