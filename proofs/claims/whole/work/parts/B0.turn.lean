/-! TURNINGS: what sorted turnings are -/
section TT
variable {n : Nat} {f : Nat → Int}
def mt_eq (n : Nat) (f : Nat → Int) (L a b : Nat) : Prop := ∀ j, j < L → f ((a + j) % n) = f ((b + j) % n)
def mt_lt (n : Nat) (f : Nat → Int) (L a b : Nat) : Prop := ∃ i, i < L ∧ (∀ j, j < i → f ((a + j) % n) = f ((b + j) % n)) ∧ f ((a + i) % n) < f ((b + i) % n)
theorem mt_eq_symm {L a b : Nat} (h : mt_eq n f L a b) : mt_eq n f L b a := fun j hj => (h j hj).symm
theorem mt_eq_trans {L a b c : Nat} (h : mt_eq n f L a b) (g : mt_eq n f L b c) : mt_eq n f L a c := fun j hj => (h j hj).trans (g j hj)
theorem mt_tri (a b : Nat) : ∀ L, mt_lt n f L a b ∨ mt_eq n f L a b ∨ mt_lt n f L b a
  | 0 => .inr (.inl fun j h => absurd h (Nat.not_lt_zero _))
  | L + 1 => by
    rcases mt_tri a b L with ⟨i, h1, h2, h3⟩ | h | ⟨i, h1, h2, h3⟩
    · exact .inl ⟨i, by omega, h2, h3⟩
    · rcases Int.lt_trichotomy (f ((a + L) % n)) (f ((b + L) % n)) with c | c | c
      · exact .inl ⟨L, by omega, h, c⟩
      · refine .inr (.inl fun j hj => ?_)
        by_cases q : j = L
        · rw [q, c]
        · exact h j (by omega)
      · exact .inr (.inr ⟨L, by omega, fun j hj => (h j hj).symm, c⟩)
    · exact .inr (.inr ⟨i, by omega, h2, h3⟩)
theorem mt_irr {L a : Nat} (h : mt_lt n f L a a) : False := by
  obtain ⟨i, _, _, h3⟩ := h
  omega
theorem mt_lt_ne {L a b : Nat} (h : mt_lt n f L a b) (g : mt_eq n f L a b) : False := by
  obtain ⟨i, h1, _, h3⟩ := h
  have := g i h1
  omega
theorem mt_trans {L a b c : Nat} (h : mt_lt n f L a b) (g : mt_lt n f L b c) : mt_lt n f L a c := by
  obtain ⟨i, h1, h2, h3⟩ := h
  obtain ⟨k, g1, g2, g3⟩ := g
  rcases Nat.lt_trichotomy i k with q | q | q
  · refine ⟨i, h1, fun j hj => (h2 j hj).trans (g2 j (by omega)), ?_⟩
    have := g2 i q
    omega
  · subst q
    exact ⟨i, h1, fun j hj => (h2 j hj).trans (g2 j hj), by omega⟩
  · refine ⟨k, g1, fun j hj => (h2 j (by omega)).trans (g2 j hj), ?_⟩
    have := h2 k q
    omega
theorem mt_asym {L a b : Nat} (h : mt_lt n f L a b) (g : mt_lt n f L b a) : False := mt_irr (mt_trans h g)
theorem mt_eq_lt {L a b c : Nat} (h : mt_eq n f L a b) (g : mt_lt n f L b c) : mt_lt n f L a c := by
  obtain ⟨k, g1, g2, g3⟩ := g
  refine ⟨k, g1, fun j hj => (h j (by omega)).trans (g2 j hj), ?_⟩
  rw [h k g1]; exact g3
theorem mt_lt_eq {L a b c : Nat} (h : mt_lt n f L a b) (g : mt_eq n f L b c) : mt_lt n f L a c := by
  obtain ⟨k, h1, h2, h3⟩ := h
  refine ⟨k, h1, fun j hj => (h2 j hj).trans (g j (by omega)), ?_⟩
  rw [← g k h1]; exact h3
theorem mt_mod (a L j : Nat) : ((a + L) % n + j) % n = (a + (L + j)) % n := by
  rw [Nat.mod_add_mod, Nat.add_assoc]
theorem mt_eq_add {L K a b : Nat} : mt_eq n f (L + K) a b ↔ mt_eq n f L a b ∧ mt_eq n f K ((a + L) % n) ((b + L) % n) := by
  constructor
  · intro h
    refine ⟨fun j hj => h j (by omega), fun j hj => ?_⟩
    rw [mt_mod, mt_mod]
    exact h (L + j) (by omega)
  · rintro ⟨h, g⟩ j hj
    by_cases c : j < L
    · exact h j c
    · have := g (j - L) (by omega)
      rw [mt_mod, mt_mod, show L + (j - L) = j from by omega] at this
      exact this
theorem mt_lt_add {L K a b : Nat} : mt_lt n f (L + K) a b ↔ mt_lt n f L a b ∨ (mt_eq n f L a b ∧ mt_lt n f K ((a + L) % n) ((b + L) % n)) := by
  constructor
  · rintro ⟨i, h1, h2, h3⟩
    by_cases c : i < L
    · exact .inl ⟨i, c, h2, h3⟩
    · refine .inr ⟨fun j hj => h2 j (by omega), i - L, by omega, fun j hj => ?_, ?_⟩
      · rw [mt_mod, mt_mod]; exact h2 (L + j) (by omega)
      · rw [mt_mod, mt_mod, show L + (i - L) = i from by omega]; exact h3
  · rintro (⟨i, h1, h2, h3⟩ | ⟨h, i, h1, h2, h3⟩)
    · exact ⟨i, by omega, h2, h3⟩
    · refine ⟨L + i, by omega, fun j hj => ?_, ?_⟩
      · by_cases c : j < L
        · exact h j c
        · have := h2 (j - L) (by omega)
          rw [mt_mod, mt_mod, show L + (j - L) = j from by omega] at this
          exact this
      · rw [mt_mod, mt_mod] at h3; exact h3
theorem mt_eq_le {L K a b : Nat} (h : mt_eq n f L a b) (hK : K ≤ L) : mt_eq n f K a b := fun j hj => h j (by omega)
theorem mt_lt_le {L K a b : Nat} (h : mt_lt n f K a b) (hK : K ≤ L) : mt_lt n f L a b := by
  obtain ⟨i, h1, h2, h3⟩ := h
  exact ⟨i, by omega, h2, h3⟩
/-- all round says all -/
theorem mt_eq_n {L a b : Nat} (n0 : 0 < n) (h : mt_eq n f n a b) : mt_eq n f L a b := by
  intro j _
  have e : ∀ x, (x + j) % n = (x + j % n) % n := fun x => by rw [Nat.add_mod_mod]
  rw [e a, e b]
  exact h (j % n) (Nat.mod_lt _ n0)
theorem mt_lt_n {L a b : Nat} (n0 : 0 < n) (hL : n ≤ L) : mt_lt n f L a b ↔ mt_lt n f n a b := by
  constructor
  · intro h
    rcases mt_tri (n := n) (f := f) a b n with c | c | c
    · exact c
    · exact (mt_lt_ne h (mt_eq_n n0 c)).elim
    · exact (mt_asym h (mt_lt_le c hL)).elim
  · intro h
    exact mt_lt_le h hL
/-- the order of turnings: alike ones by where they begin -/
def mt_T (n : Nat) (f : Nat → Int) (L a b : Nat) : Prop := mt_lt n f L a b ∨ (mt_eq n f L a b ∧ a < b)
theorem mt_T_as {L a b : Nat} (h : mt_T n f L a b) (g : mt_T n f L b a) : False := by
  rcases h with h | ⟨h, h2⟩
  · rcases g with g | ⟨g, _⟩
    · exact mt_asym h g
    · exact mt_lt_ne h (mt_eq_symm g)
  · rcases g with g | ⟨g, g2⟩
    · exact mt_lt_ne g (mt_eq_symm h)
    · omega
theorem mt_T_tr {L a b c : Nat} (h : mt_T n f L a b) (g : mt_T n f L b c) : mt_T n f L a c := by
  rcases h with h | ⟨h, h2⟩
  · rcases g with g | ⟨g, _⟩
    · exact .inl (mt_trans h g)
    · exact .inl (mt_lt_eq h g)
  · rcases g with g | ⟨g, g2⟩
    · exact .inl (mt_eq_lt h g)
    · exact .inr ⟨mt_eq_trans h g, by omega⟩
theorem mt_T_to {L a b : Nat} (h : a ≠ b) : mt_T n f L a b ∨ mt_T n f L b a := by
  rcases mt_tri (n := n) (f := f) a b L with c | c | c
  · exact .inl (.inl c)
  · rcases Nat.lt_or_gt_of_ne h with q | q
    · exact .inl (.inr ⟨c, q⟩)
    · exact .inr (.inr ⟨mt_eq_symm c, q⟩)
  · exact .inr (.inl c)
/-- a row of all numbers below n -/
def mt_P (n : Nat) (o : Nat → Nat) : Prop := (∀ i, i < n → o i < n) ∧ (∀ i j, i < n → j < n → o i = o j → i = j) ∧ ∀ a, a < n → ∃ i, i < n ∧ o i = a
theorem mt_pig : ∀ {n : Nat} {g : Nat → Nat}, (∀ i, i < n → g i < n) → (∀ i j, i < n → j < n → g i = g j → i = j) → ∀ a, a < n → ∃ i, i < n ∧ g i = a
  | 0, _, _, _, a, h => by omega
  | n + 1, g, h, hi, a, ha => by
    have ih := mt_pig (n := n) (g := fun i => if g i = n then g n else g i) (fun i hin => by
      by_cases c : g i = n
      · rw [if_pos c]
        have h1 := h n (by omega)
        have h2 : g n ≠ n := fun q => by
          have := hi i n (by omega) (by omega) (by omega)
          omega
        omega
      · rw [if_neg c]
        have := h i (by omega)
        omega) (fun i j i1 j1 e => by
      by_cases c : g i = n
      · rw [if_pos c] at e
        by_cases d : g j = n
        · exact hi i j (by omega) (by omega) (by omega)
        · rw [if_neg d] at e
          have := hi n j (by omega) (by omega) e
          omega
      · rw [if_neg c] at e
        by_cases d : g j = n
        · rw [if_pos d] at e
          have := hi i n (by omega) (by omega) e
          omega
        · rw [if_neg d] at e
          exact hi i j (by omega) (by omega) e)
    by_cases c : a = n
    · subst c
      by_cases d : g a = a
      · exact ⟨a, by omega, d⟩
      · have h1 := h a (by omega)
        obtain ⟨i, i1, i2⟩ := ih (g a) (by omega)
        by_cases q : g i = a
        · exact ⟨i, by omega, q⟩
        · rw [if_neg q] at i2
          have := hi i a (by omega) (by omega) i2
          omega
    · obtain ⟨i, i1, i2⟩ := ih a (by omega)
      by_cases q : g i = n
      · rw [if_pos q] at i2
        exact ⟨n, by omega, i2⟩
      · rw [if_neg q] at i2
        exact ⟨i, by omega, i2⟩
theorem mt_P_of {n : Nat} {o : Nat → Nat} (h : ∀ i, i < n → o i < n) (g : ∀ i j, i < n → j < n → o i = o j → i = j) : mt_P n o := ⟨h, g, mt_pig h g⟩
def mt_S (n : Nat) (T : Nat → Nat → Prop) (o : Nat → Nat) : Prop := mt_P n o ∧ ∀ i j, i < j → j < n → T (o i) (o j)
theorem mt_S_u {T : Nat → Nat → Prop} {o p : Nat → Nat} (ha : ∀ a b, T a b → T b a → False) (h : mt_S n T o) (g : mt_S n T p) : ∀ i, i < n → o i = p i := by
  intro i
  induction i using Nat.strongRecOn with
  | _ i ih =>
    intro hi
    obtain ⟨⟨h1, h2, h3⟩, h4⟩ := h
    obtain ⟨⟨g1, g2, g3⟩, g4⟩ := g
    obtain ⟨k, k1, k2⟩ := g3 (o i) (h1 i hi)
    obtain ⟨m, m1, m2⟩ := h3 (p i) (g1 i hi)
    rcases Nat.lt_trichotomy k i with c | c | c
    · have e := ih k c k1
      have := h2 k i k1 hi (by omega)
      omega
    · rw [← k2, c]
    · rcases Nat.lt_trichotomy m i with d | d | d
      · have e := ih m d m1
        have := g2 m i m1 hi (by omega)
        omega
      · rw [← m2, d]
      · have x := g4 i k c k1
        have y := h4 i m d m1
        rw [k2] at x
        rw [m2] at y
        exact (ha _ _ x y).elim
/-- numbers that stand for L bytes -/
def mt_R (n : Nat) (f : Nat → Int) (L : Nat) (r : Nat → Int) : Prop := ∀ a b, a < n → b < n → (r a < r b ↔ mt_lt n f L a b)
theorem mt_R_eq {L : Nat} {r : Nat → Int} (h : mt_R n f L r) {a b : Nat} (ha : a < n) (hb : b < n) : r a = r b ↔ mt_eq n f L a b := by
  constructor
  · intro e
    rcases mt_tri (n := n) (f := f) a b L with c | c | c
    · have := (h a b ha hb).mpr c; omega
    · exact c
    · have := (h b a hb ha).mpr c; omega
  · intro e
    rcases Int.lt_trichotomy (r a) (r b) with c | c | c
    · exact (mt_lt_ne ((h a b ha hb).mp c) e).elim
    · exact c
    · exact (mt_lt_ne ((h b a hb ha).mp c) (mt_eq_symm e)).elim
theorem mt_R_1 (n0 : 0 < n) : mt_R n f 1 f := by
  intro a b ha hb
  constructor
  · intro h
    refine ⟨0, by omega, fun j hj => by omega, ?_⟩
    rw [Nat.add_zero, Nat.add_zero, Nat.mod_eq_of_lt ha, Nat.mod_eq_of_lt hb]
    exact h
  · rintro ⟨i, h1, _, h3⟩
    have : i = 0 := by omega
    subst this
    rw [Nat.add_zero, Nat.add_zero, Nat.mod_eq_of_lt ha, Nat.mod_eq_of_lt hb] at h3
    exact h3
theorem mt_R_2 {L : Nat} {r : Nat → Int} (n0 : 0 < n) (h : mt_R n f L r) {a b : Nat} (ha : a < n) (hb : b < n) : (r a < r b ∨ (r a = r b ∧ r ((a + L) % n) < r ((b + L) % n))) ↔ mt_lt n f (L + L) a b := by
  rw [mt_lt_add, h a b ha hb, mt_R_eq h ha hb, h _ _ (Nat.mod_lt _ n0) (Nat.mod_lt _ n0)]
theorem mt_R_2e {L : Nat} {r : Nat → Int} (n0 : 0 < n) (h : mt_R n f L r) {a b : Nat} (ha : a < n) (hb : b < n) : (r a = r b ∧ r ((a + L) % n) = r ((b + L) % n)) ↔ mt_eq n f (L + L) a b := by
  rw [mt_eq_add, mt_R_eq h ha hb, mt_R_eq h (Nat.mod_lt _ n0) (Nat.mod_lt _ n0)]
/-- new numbers by counting where neighbours differ -/
theorem mt_R_new {L : Nat} {o : Nat → Nat} {r : Nat → Int} {c : Nat → Int} (hP : mt_P n o) (hw : ∀ i j, i < j → j < n → ¬ mt_lt n f L (o j) (o i)) (hc : ∀ k, k + 1 < n → (mt_eq n f L (o k) (o (k + 1)) ∧ c (k + 1) = c k) ∨ (¬ mt_eq n f L (o k) (o (k + 1)) ∧ c (k + 1) = c k + 1)) (hr : ∀ k, k < n → r (o k) = c k) : mt_R n f L r := by
  have key : ∀ d i, i + d < n → (c i ≤ c (i + d)) ∧ (mt_eq n f L (o i) (o (i + d)) ↔ c i = c (i + d)) := by
    intro d
    induction d with
    | zero => intro i hi; exact ⟨Int.le_refl _, fun _ => rfl, fun _ j hj => rfl⟩
    | succ d ih =>
      intro i hi
      obtain ⟨i1, i2⟩ := ih i (by omega)
      have e : i + (d + 1) = i + d + 1 := by omega
      rw [e]
      rcases hc (i + d) (by omega) with ⟨x1, x2⟩ | ⟨x1, x2⟩
      · refine ⟨by omega, fun h => ?_, fun h => ?_⟩
        · have := i2.mp (mt_eq_trans h (mt_eq_symm x1))
          omega
        · exact mt_eq_trans (i2.mpr (by omega)) x1
      · refine ⟨by omega, fun h => ?_, fun h => by omega⟩
        -- equal ends: the middle is equal too
        exfalso
        rcases mt_tri (n := n) (f := f) (o (i + d)) (o (i + d + 1)) L with q | q | q
        · by_cases d0 : d = 0
          · subst d0
            exact x1 h
          · have w := hw i (i + d) (by omega) (by omega)
            exact w (mt_lt_eq q (mt_eq_symm h))
        · exact x1 q
        · exact hw (i + d) (i + d + 1) (by omega) (by omega) q
  intro a b ha hb
  obtain ⟨i, i1, rfl⟩ := hP.2.2 a ha
  obtain ⟨j, j1, rfl⟩ := hP.2.2 b hb
  rw [hr i i1, hr j j1]
  rcases Nat.lt_trichotomy i j with q | q | q
  · obtain ⟨k1, k2⟩ := key (j - i) i (by omega)
    rw [show i + (j - i) = j from by omega] at k1 k2
    constructor
    · intro h
      rcases mt_tri (n := n) (f := f) (o i) (o j) L with z | z | z
      · exact z
      · have := k2.mp z; omega
      · exact (hw i j q j1 z).elim
    · intro h
      have : ¬ c i = c j := fun e => mt_lt_ne h (k2.mpr e)
      omega
  · subst q
    exact ⟨fun h => by omega, fun h => (mt_irr h).elim⟩
  · obtain ⟨k1, k2⟩ := key (i - j) j (by omega)
    rw [show j + (i - j) = i from by omega] at k1 k2
    constructor
    · intro h; omega
    · intro h
      exact (hw j i q i1 h).elim
/-- the numbers of a row are all different where the last is n - 1 -/
theorem mt_last {L : Nat} {o : Nat → Nat} {c : Nat → Int} (n0 : 0 < n) (hP : mt_P n o) (hc : ∀ k, k + 1 < n → (mt_eq n f L (o k) (o (k + 1)) ∧ c (k + 1) = c k) ∨ (¬ mt_eq n f L (o k) (o (k + 1)) ∧ c (k + 1) = c k + 1)) (h0 : c 0 = 0) (hl : c (n - 1) = (n : Int) - 1) : ∀ k, k < n → c k = k := by
  have up : ∀ k, k < n → c k ≤ k := by
    intro k
    induction k with
    | zero => intro _; omega
    | succ k ih =>
      intro hk
      have := ih (by omega)
      rcases hc k hk with ⟨_, x⟩ | ⟨_, x⟩
      · omega
      · omega
  have dn : ∀ d, d < n → c (n - 1 - d) ≥ (n : Int) - 1 - d := by
    intro d
    induction d with
    | zero => intro _; rw [Nat.sub_zero, hl]; omega
    | succ d ih =>
      intro hd
      have := ih (by omega)
      have e : n - 1 - d = n - 1 - (d + 1) + 1 := by omega
      rcases hc (n - 1 - (d + 1)) (by omega) with ⟨_, x⟩ | ⟨_, x⟩
      · rw [← e] at x
        omega
      · rw [← e] at x
        omega
  intro k hk
  have h1 := up k hk
  have h2 := dn (n - 1 - k) (by omega)
  rw [show n - 1 - (n - 1 - k) = k from by omega] at h2
  omega
end TT
