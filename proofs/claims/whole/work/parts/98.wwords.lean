/-! WRITING: WORDS, the words as a tree -/
def mq_tre (t : Nat → Int32) (sz D : Nat) (A S P : Nat → Nat) : Prop := ∀ q, 258 ≤ q → q < D → 2 ≤ S q ∧ A q + S q ≤ sz ∧ ((P q < 256 ∧ S q = 2 ∧ (t (A q)).toInt = P q) ∨ (258 ≤ P q ∧ P q < q ∧ S q = S (P q) + 1 ∧ ∀ i, i < S (P q) → t (A (P q) + i) = t (A q + i)))
def mq_tu (t : Nat → Int32) (D : Nat) (A S P : Nat → Nat) : Prop := ∀ q r, 258 ≤ q → q < D → 258 ≤ r → r < D → P q = P r → t (A q + (S q - 1)) = t (A r + (S r - 1)) → q = r
section WT
variable {t : Nat → Int32} {sz D : Nat} {A S P : Nat → Nat}
theorem mq_tr_u (h : mq_tre t sz D A S P) (g : mq_tu t D A S P) : ∀ n q r, 258 ≤ q → q < D → 258 ≤ r → r < D → S q = n → S r = n → (∀ i, i < n → t (A q + i) = t (A r + i)) → q = r := by
  intro n
  induction n with
  | zero => intro q r q0 q1 _ _ e _ _; have := (h q q0 q1).1; omega
  | succ n ih =>
    intro q r q0 q1 r0 r1 e1 e2 hs
    obtain ⟨a1, a2, a3⟩ := h q q0 q1
    obtain ⟨b1, b2, b3⟩ := h r r0 r1
    refine g q r q0 q1 r0 r1 ?_ (by rw [e1, e2]; exact hs _ (by omega))
    rcases a3 with ⟨x1, x2, x3⟩ | ⟨x1, x2, x3, x4⟩
    · rcases b3 with ⟨y1, y2, y3⟩ | ⟨y1, y2, y3, y4⟩
      · have := hs 0 (by omega)
        rw [Nat.add_zero, Nat.add_zero] at this
        rw [this, y3] at x3
        omega
      · have := (h (P r) y1 (by omega)).1
        omega
    · rcases b3 with ⟨y1, y2, y3⟩ | ⟨y1, y2, y3, y4⟩
      · have := (h (P q) x1 (by omega)).1
        omega
      · refine ih (P q) (P r) x1 (by omega) y1 (by omega) (by omega) (by omega) (fun i hi => ?_)
        rw [x4 i (by omega), y4 i (by omega)]
        exact hs i (by omega)
theorem mq_tr_a (h : mq_tre t sz D A S P) : ∀ q, 258 ≤ q → q < D → ∀ m, 2 ≤ m → m ≤ S q → ∃ r, 258 ≤ r ∧ r < D ∧ S r = m ∧ ∀ i, i < m → t (A r + i) = t (A q + i) := by
  intro q
  induction q using Nat.strongRecOn with
  | _ q ih =>
    intro q0 q1 m m0 m1
    by_cases c : m = S q
    · exact ⟨q, q0, q1, c.symm, fun _ _ => rfl⟩
    obtain ⟨a1, a2, a3⟩ := h q q0 q1
    rcases a3 with ⟨x1, x2, x3⟩ | ⟨x1, x2, x3, x4⟩
    · omega
    · obtain ⟨r, r0, r1, r2, r3⟩ := ih (P q) x2 x1 (by omega) m m0 (by omega)
      refine ⟨r, r0, r1, r2, fun i hi => ?_⟩
      rw [r3 i hi, x4 i (by omega)]
def mq_rd (t : Nat → Int32) (sz D : Nat) (A S : Nat → Nat) (k c l : Nat) : Prop := k + l ≤ sz ∧ ((c < 256 ∧ l = 1 ∧ (t k).toInt = c) ∨ (258 ≤ c ∧ c < D ∧ l = S c ∧ ∀ i, i < l → t (A c + i) = t (k + i)))
def mq_sd (t : Nat → Int32) (sz : Nat) (A S : Nat → Nat) (k r : Nat) : Prop := k + S r ≤ sz ∧ ∀ i, i < S r → t (A r + i) = t (k + i)
theorem mq_rd_c {k c l q : Nat} (h : mq_tre t sz D A S P) (hr : mq_rd t sz D A S k c l) (hk : k + l < sz) (q0 : 258 ≤ q) (q1 : q < D) (hp : P q = c) (hl : t (A q + (S q - 1)) = t (k + l)) : mq_rd t sz D A S k q (l + 1) := by
  obtain ⟨a1, a2, a3⟩ := h q q0 q1
  refine ⟨by omega, .inr ⟨q0, q1, ?_, ?_⟩⟩
  · rcases a3 with ⟨x1, x2, x3⟩ | ⟨x1, x2, x3, x4⟩
    · rcases hr.2 with ⟨y1, y2, y3⟩ | ⟨y1, y2, y3, y4⟩
      · omega
      · omega
    · rcases hr.2 with ⟨y1, y2, y3⟩ | ⟨y1, y2, y3, y4⟩
      · omega
      · rw [x3, hp, y3]
  · intro i hi
    rcases a3 with ⟨x1, x2, x3⟩ | ⟨x1, x2, x3, x4⟩
    · rcases hr.2 with ⟨y1, y2, y3⟩ | ⟨y1, y2, y3, y4⟩
      · by_cases c0 : i = 0
        · subst c0
          rw [Nat.add_zero, Nat.add_zero]
          exact Int32.toInt_inj.mp (by omega)
        · have : i = l := by omega
          rw [this, ← hl]
          congr 1
          omega
      · omega
    · rcases hr.2 with ⟨y1, y2, y3⟩ | ⟨y1, y2, y3, y4⟩
      · omega
      · rw [hp] at x3 x4
        by_cases c0 : i < l
        · rw [← x4 i (by omega)]
          exact y4 i c0
        · have : i = l := by omega
          rw [this, ← hl]
          congr 1
          omega
theorem mq_rd_m {k c l : Nat} (h : mq_tre t sz D A S P) (g : mq_tu t D A S P) (hr : mq_rd t sz D A S k c l) (hn : k + l = sz ∨ ∀ q, 258 ≤ q → q < D → P q = c → t (A q + (S q - 1)) ≠ t (k + l)) : ∀ r, 258 ≤ r → r < D → mq_sd t sz A S k r → S r ≤ l := by
  intro r r0 r1 hs
  apply Decidable.byContradiction
  intro c1
  have hn := hn.resolve_left (fun q => by have := hs.1; omega)
  have l1 : 1 ≤ l := by
    rcases hr.2 with ⟨_, y2, _⟩ | ⟨y1, y2, y3, _⟩
    · omega
    · have := (h c y1 y2).1; omega
  obtain ⟨r', p0, p1, p2, p3⟩ := mq_tr_a h r r0 r1 (l + 1) (by omega) (by omega)
  have st : ∀ i, i < l + 1 → t (A r' + i) = t (k + i) := fun i hi => (p3 i hi).trans (hs.2 i (by omega))
  obtain ⟨a1, a2, a3⟩ := h r' p0 p1
  have hpc : P r' = c := by
    rcases a3 with ⟨x1, x2, x3⟩ | ⟨x1, x2, x3, x4⟩
    · rcases hr.2 with ⟨y1, y2, y3⟩ | ⟨y1, y2, y3, y4⟩
      · have := st 0 (by omega)
        rw [Nat.add_zero, Nat.add_zero] at this
        rw [this, y3] at x3
        omega
      · have := (h c y1 y2).1; omega
    · rcases hr.2 with ⟨y1, y2, y3⟩ | ⟨y1, y2, y3, y4⟩
      · have := (h (P r') x1 (by omega)).1; omega
      · refine mq_tr_u h g l (P r') c x1 (by omega) y1 y2 (by omega) y3.symm (fun i hi => ?_)
        rw [x4 i (by omega), y4 i hi]
        exact st i (by omega)
  refine hn r' p0 p1 hpc ?_
  have := st l (by omega)
  rw [show S r' - 1 = l from by omega]
  exact this
theorem mq_rd_u {k c l c2 l2 : Nat} (h : mq_tre t sz D A S P) (g : mq_tu t D A S P) (hr : mq_rd t sz D A S k c l) (hm : ∀ r, 258 ≤ r → r < D → mq_sd t sz A S k r → S r ≤ l) (hr2 : mq_rd t sz D A S k c2 l2) (hm2 : ∀ r, 258 ≤ r → r < D → mq_sd t sz A S k r → S r ≤ l2) : c = c2 ∧ l = l2 := by
  have e1 := hr.1
  have e2 := hr2.1
  rcases hr.2 with ⟨x1, x2, x3⟩ | ⟨x1, x2, x3, x4⟩
  · rcases hr2.2 with ⟨y1, y2, y3⟩ | ⟨y1, y2, y3, y4⟩
    · omega
    · have := hm c2 y1 y2 ⟨by omega, by rw [← y3]; exact y4⟩
      have := (h c2 y1 y2).1
      omega
  · rcases hr2.2 with ⟨y1, y2, y3⟩ | ⟨y1, y2, y3, y4⟩
    · have := hm2 c x1 x2 ⟨by omega, by rw [← x3]; exact x4⟩
      have := (h c x1 x2).1
      omega
    · have a1 := hm c2 y1 y2 ⟨by omega, by rw [← y3]; exact y4⟩
      have a2 := hm2 c x1 x2 ⟨by omega, by rw [← x3]; exact x4⟩
      have e : l = l2 := by omega
      subst e
      exact ⟨mq_tr_u h g l c c2 x1 x2 y1 y2 x3.symm y3.symm (fun i hi => (x4 i hi).trans (y4 i hi).symm), rfl⟩
/-- a new word -/
def mq_up (f : Nat → Nat) (i v : Nat) : Nat → Nat := fun j => if j = i then v else f j
theorem mq_up_s {f : Nat → Nat} {i v : Nat} : mq_up f i v i = v := by unfold mq_up; rw [if_pos rfl]
theorem mq_up_n {f : Nat → Nat} {i v j : Nat} (h : j ≠ i) : mq_up f i v j = f j := by unfold mq_up; rw [if_neg h]
theorem mq_tr_n {k c l : Nat} (h : mq_tre t sz D A S P) (hD : 258 ≤ D) (hr : mq_rd t sz D A S k c l) (hk : k + l < sz) : mq_tre t sz (D + 1) (mq_up A D k) (mq_up S D (l + 1)) (mq_up P D c) := by
  intro q q0 q1
  by_cases e : q = D
  · subst e
    rw [mq_up_s, mq_up_s, mq_up_s]
    rcases hr.2 with ⟨y1, y2, y3⟩ | ⟨y1, y2, y3, y4⟩
    · exact ⟨by omega, by omega, .inl ⟨y1, by omega, y3⟩⟩
    · have := (h c y1 y2).1
      refine ⟨by omega, by omega, .inr ⟨y1, y2, ?_, fun i hi => ?_⟩⟩
      · rw [mq_up_n (by omega)]; omega
      · rw [mq_up_n (by omega)] at hi
        rw [mq_up_n (by omega)]
        exact y4 i (by omega)
  · rw [mq_up_n e, mq_up_n e, mq_up_n e]
    obtain ⟨a1, a2, a3⟩ := h q q0 (by omega)
    refine ⟨a1, a2, ?_⟩
    rcases a3 with a3 | ⟨x1, x2, x3, x4⟩
    · exact .inl a3
    · refine .inr ⟨x1, x2, ?_, fun i hi => ?_⟩
      · rw [mq_up_n (by omega)]; exact x3
      · rw [mq_up_n (by omega)] at hi
        rw [mq_up_n (by omega)]
        exact x4 i hi
theorem mq_tu_n {k c l : Nat} (g : mq_tu t D A S P) (hn : ∀ q, 258 ≤ q → q < D → P q = c → t (A q + (S q - 1)) ≠ t (k + l)) : mq_tu t (D + 1) (mq_up A D k) (mq_up S D (l + 1)) (mq_up P D c) := by
  intro q r q0 q1 r0 r1 hp hl
  by_cases e : q = D
  · by_cases e2 : r = D
    · omega
    · subst e
      rw [mq_up_s, mq_up_n e2] at hp
      rw [mq_up_s, mq_up_s, mq_up_n e2, mq_up_n e2] at hl
      exact absurd hl.symm (hn r r0 (by omega) hp.symm)
  · by_cases e2 : r = D
    · subst e2
      rw [mq_up_s, mq_up_n e] at hp
      rw [mq_up_s, mq_up_s, mq_up_n e, mq_up_n e] at hl
      exact absurd hl (hn q q0 (by omega) hp)
    · rw [mq_up_n e, mq_up_n e2] at hp
      rw [mq_up_n e, mq_up_n e, mq_up_n e2, mq_up_n e2] at hl
      exact g q r q0 (by omega) r0 (by omega) hp hl
/-- the class's rows of it -/
def mq_wl (P : Nat → Nat) (D p : Nat) (x : Int32) : Prop := (x = 0 ∧ ∀ q, 258 ≤ q → q < D → P q ≠ p) ∨ ∃ q : Nat, x.toInt = q ∧ 258 ≤ q ∧ q < D ∧ P q = p ∧ ∀ r, q < r → r < D → P r ≠ p
def mq_WT (t : Nat → Int32) (D : Nat) (A S P : Nat → Nat) (M : mm_M) : Prop := (∀ p, p < 4096 → mq_wl P D p (M.1 38 p)) ∧ ∀ q, 258 ≤ q → q < D → mq_wl P q (P q) (M.1 39 q) ∧ M.1 40 q = t (A q + (S q - 1))
theorem mq_115 {M : mm_M} {v1 v2 : Int32} {c : Nat} (h : mq_WT t D A S P M) (hD : D ≤ 4096) (hc : v1.toInt = c) (hc2 : c < 4096) : ∃ r, mf_115 v1 v2 M = some (.inl r, M) ∧ ((r = 0 ∧ ∀ q, 258 ≤ q → q < D → P q = c → t (A q + (S q - 1)) ≠ v2) ∨ ∃ q : Nat, r.toInt = q ∧ 258 ≤ q ∧ q < D ∧ P q = c ∧ t (A q + (S q - 1)) = v2) := by
  apply mq_1_is
  have nc : v1.toNatClampNeg = c := by rw [mq_cl]; omega
  unfold mf_115
  rw [if_pos (mq_inr (by omega) (by omega)), nc]
  refine mq_1_B (P := fun (r : Int32) M2 => M2 = M ∧ ((r = 0 ∧ ∀ q, 258 ≤ q → q < D → P q = c → t (A q + (S q - 1)) ≠ v2) ∨ ∃ q : Nat, r.toInt = q ∧ 258 ≤ q ∧ q < D ∧ P q = c ∧ t (A q + (S q - 1)) = v2)) ?_ (fun _ _ q => mq_1_ret q)
  unfold mf_115_L10
  refine mq_1_L (I := fun (s : Int32 × Int32) M2 => M2 = M ∧ ∃ E k : Nat, s.2.toInt = k ∧ k + E ≤ D ∧ mq_wl P E c s.1 ∧ ∀ q, 258 ≤ q → E ≤ q → q < D → P q = c → t (A q + (S q - 1)) ≠ v2) (m := fun (s : Int32 × Int32) _ => s.1.toInt.toNat) ?_ ⟨rfl, D, 0, rfl, by omega, h.1 c hc2, fun q _ h1 h2 => by omega⟩
  rintro ⟨x, kk⟩ M2 ⟨rfl, E, k, hk, kE, hx, hn⟩
  dsimp only at hk hx ⊢
  unfold mf_115_b10
  rcases hx with ⟨rfl, hx⟩ | ⟨q, x1, x2, x3, x4, x5⟩
  · have ex : mq_1 (some (.inl (.inr 0), M2) : mm_O ((Int32 × Int32) ⊕ Int32)) (fun r N => (∃ s2, r = .inl s2 ∧ (N = M2 ∧ ∃ E k : Nat, s2.2.toInt = k ∧ k + E ≤ D ∧ mq_wl P E c s2.1 ∧ ∀ q, 258 ≤ q → E ≤ q → q < D → P q = c → t (A q + (S q - 1)) ≠ v2) ∧ s2.1.toInt.toNat < (0 : Int32).toInt.toNat) ∨ (∃ x, r = .inr x ∧ N = M2 ∧ ((x = 0 ∧ ∀ q, 258 ≤ q → q < D → P q = c → t (A q + (S q - 1)) ≠ v2) ∨ ∃ q : Nat, x.toInt = q ∧ 258 ≤ q ∧ q < D ∧ P q = c ∧ t (A q + (S q - 1)) = v2))) := by
      refine mq_1_ret (.inr ⟨_, rfl, rfl, .inl ⟨rfl, fun q q0 q1 hp => ?_⟩⟩)
      by_cases z : q < E
      · exact absurd hp (hx q q0 z)
      · exact hn q q0 (by omega) q1 hp
    by_cases c4 : kk < 4096
    · rw [if_pos c4, if_neg (by decide)]; exact ex
    · rw [if_neg c4]; exact ex
  · have nq : x.toNatClampNeg = q := by rw [mq_cl]; omega
    have hin : mm_in x 4096 = true := mq_inr (by omega) (by omega)
    obtain ⟨h1, h2⟩ := h.2 q x2 (by omega)
    rw [if_pos (by rw [Int32.lt_iff_toInt_lt]; simp only [Int32.reduceToInt]; omega), if_pos (by rw [Int32.lt_iff_toInt_lt]; simp only [Int32.reduceToInt]; omega), if_pos hin, nq, h2]
    by_cases z : t (A q + (S q - 1)) = v2
    · rw [if_pos z]
      exact mq_1_ret (.inr ⟨_, rfl, rfl, .inr ⟨q, x1, x2, by omega, x4, z⟩⟩)
    · rw [if_neg z, if_pos hin]
      have e1 : (kk + 1).toInt = ((k + 1 : Nat) : Int) := by rw [mi_add]; simp only [Int32.reduceToInt]; omega
      rw [x4] at h1
      refine mq_1_ret (.inl ⟨_, rfl, ⟨rfl, q, k + 1, e1, by omega, h1, fun r r0 r1 r2 hp => ?_⟩, ?_⟩)
      · by_cases y : r = q
        · rw [y]; exact z
        · by_cases w : r < E
          · exact absurd hp (x5 r (by omega) w)
          · exact hn r r0 (by omega) r2 hp
      · dsimp only
        rcases h1 with ⟨g1, _⟩ | ⟨q2, g1, g2, g3, _⟩
        · rw [g1]
          simp only [Int32.reduceToInt]
          omega
        · omega
end WT
