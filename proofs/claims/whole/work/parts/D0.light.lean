/-! THE CALLS: length, the lightest -/
theorem mq_light {M N : mm_M} {v but : Int32} {n : Nat} (hv : v.toInt = n) (hn : n ≤ 511) (h1 : ∀ i, i < n → M.1 82 i = N.1 108 i) (h2 : ∀ (i : Nat) (x : Int32), i < n → x.toInt = i → ((M.1 83 i = 0 ∧ x ≠ but) ↔ N.1 109 i = 0)) : ∃ r, mf_37 v but M = some (.inl r, M) ∧ mf_288 v N = some (.inl r, N) ∧ ((r = -1 ∧ ∀ i, i < n → ¬ (0 < M.1 82 i ∧ N.1 109 i = 0)) ∨ ∃ j : Nat, j < n ∧ r.toInt = j ∧ 0 < M.1 82 j ∧ N.1 109 j = 0) := by
  have L : mq_2 mq_F (mf_37 v but M) (mf_288 v N) (fun r M2 b N2 => r = b ∧ M2 = M ∧ N2 = N ∧ ((r = -1 ∧ ∀ i, i < n → ¬ (0 < M.1 82 i ∧ N.1 109 i = 0)) ∨ ∃ j : Nat, j < n ∧ r.toInt = j ∧ 0 < M.1 82 j ∧ N.1 109 j = 0)) := by
    unfold mf_37 mf_288
    refine mq_2_Bf (P := fun (r : Int32) M2 (b : Int32) N2 => r = b ∧ M2 = M ∧ N2 = N ∧ ((r = -1 ∧ ∀ i, i < n → ¬ (0 < M.1 82 i ∧ N.1 109 i = 0)) ∨ ∃ j : Nat, j < n ∧ r.toInt = j ∧ 0 < M.1 82 j ∧ N.1 109 j = 0)) ?_ (fun _ _ _ _ q => mq_2_ret q)
    unfold mf_37_L5 mf_288_L4
    refine mq_2_Lf (I := fun (a : Int32 × Int32) M2 (b : Int32 × Int32) N2 => a = b ∧ M2 = M ∧ N2 = N ∧ ∃ k : Nat, a.2.toInt = k ∧ k ≤ n ∧ ((a.1 = -1 ∧ ∀ i, i < k → ¬ (0 < M.1 82 i ∧ N.1 109 i = 0)) ∨ ∃ j : Nat, j < k ∧ a.1.toInt = j ∧ 0 < M.1 82 j ∧ N.1 109 j = 0)) (m := fun a _ => ((n : Int) - a.2.toInt).toNat) ?_ ⟨rfl, rfl, rfl, 0, rfl, Nat.zero_le _, .inl ⟨rfl, fun i hi => absurd hi (Nat.not_lt_zero _)⟩⟩
    rintro ⟨r, x⟩ M2 b N2 ⟨rfl, rfl, rfl, k, hx, hk, hr⟩
    dsimp only at hx hr ⊢
    unfold mf_37_b5 mf_288_b4
    by_cases c : x < v
    · rw [if_pos c, if_pos c]
      rw [Int32.lt_iff_toInt_lt] at c
      have nx : x.toNatClampNeg = k := by rw [mq_cl]; omega
      have e1 : (x + 1).toInt = ((k + 1 : Nat) : Int) := by rw [mi_add]; simp only [Int32.reduceToInt]; omega
      have i1 : mm_in x 511 = true := mq_inr (by omega) (by omega)
      have i2 : mm_in x 512 = true := mq_inr (by omega) (by omega)
      have hw := h1 k (by omega)
      rw [if_pos i1, if_pos i1, if_pos i2, if_pos i2, nx, ← hw]
      -- it is passed over
      have pass : ¬ (0 < M2.1 82 k ∧ N2.1 109 k = 0) → mq_2 mq_F (some (.inl (.inl (r, (x + (1 : Int32)))), M2) : mm_O ((Int32 × Int32) ⊕ Int32)) (some (.inl (.inl (r, (x + (1 : Int32)))), N2) : mm_O ((Int32 × Int32) ⊕ Int32)) (fun t M3 u N3 => (∃ a2 b2, t = .inl a2 ∧ u = .inl b2 ∧ (a2 = b2 ∧ M3 = M2 ∧ N3 = N2 ∧ ∃ k : Nat, a2.2.toInt = k ∧ k ≤ n ∧ ((a2.1 = -1 ∧ ∀ i, i < k → ¬ (0 < M2.1 82 i ∧ N2.1 109 i = 0)) ∨ ∃ j : Nat, j < k ∧ a2.1.toInt = j ∧ 0 < M2.1 82 j ∧ N2.1 109 j = 0)) ∧ ((n : Int) - a2.2.toInt).toNat < ((n : Int) - x.toInt).toNat) ∨ (∃ p q, t = .inr p ∧ u = .inr q ∧ p = q ∧ M3 = M2 ∧ N3 = N2 ∧ ((p = -1 ∧ ∀ i, i < n → ¬ (0 < M2.1 82 i ∧ N2.1 109 i = 0)) ∨ ∃ j : Nat, j < n ∧ p.toInt = j ∧ 0 < M2.1 82 j ∧ N2.1 109 j = 0))) := by
        intro hp
        refine mq_2_ret (.inl ⟨_, _, rfl, rfl, ⟨rfl, rfl, rfl, k + 1, e1, by omega, ?_⟩, by dsimp only; omega⟩)
        rcases hr with ⟨r1, r2⟩ | ⟨j, j1, j2, j3, j4⟩
        · refine .inl ⟨r1, fun i hi => ?_⟩
          by_cases z : i = k
          · rw [z]; exact hp
          · exact r2 i (by omega)
        · exact .inr ⟨j, by omega, j2, j3, j4⟩
      -- it is taken
      have take : 0 < M2.1 82 k → N2.1 109 k = 0 → mq_2 mq_F (some (.inl (.inl (x, (x + (1 : Int32)))), M2) : mm_O ((Int32 × Int32) ⊕ Int32)) (some (.inl (.inl (x, (x + (1 : Int32)))), N2) : mm_O ((Int32 × Int32) ⊕ Int32)) (fun t M3 u N3 => (∃ a2 b2, t = .inl a2 ∧ u = .inl b2 ∧ (a2 = b2 ∧ M3 = M2 ∧ N3 = N2 ∧ ∃ k : Nat, a2.2.toInt = k ∧ k ≤ n ∧ ((a2.1 = -1 ∧ ∀ i, i < k → ¬ (0 < M2.1 82 i ∧ N2.1 109 i = 0)) ∨ ∃ j : Nat, j < k ∧ a2.1.toInt = j ∧ 0 < M2.1 82 j ∧ N2.1 109 j = 0)) ∧ ((n : Int) - a2.2.toInt).toNat < ((n : Int) - x.toInt).toNat) ∨ (∃ p q, t = .inr p ∧ u = .inr q ∧ p = q ∧ M3 = M2 ∧ N3 = N2 ∧ ((p = -1 ∧ ∀ i, i < n → ¬ (0 < M2.1 82 i ∧ N2.1 109 i = 0)) ∨ ∃ j : Nat, j < n ∧ p.toInt = j ∧ 0 < M2.1 82 j ∧ N2.1 109 j = 0))) := fun a b => mq_2_ret (.inl ⟨_, _, rfl, rfl, ⟨rfl, rfl, rfl, k + 1, e1, by omega, .inr ⟨k, by omega, hx, a, b⟩⟩, by dsimp only; omega⟩)
      have hiff := h2 k x (by omega) hx
      unfold mf_37_j41 mf_37_j42
      by_cases d : 0 < M2.1 82 k
      · rw [if_pos d, if_pos d]
        by_cases f : N2.1 109 k = 0
        · obtain ⟨g1, g2⟩ := hiff.mpr f
          rw [if_pos f, if_pos g1, if_neg g2, if_neg (by decide)]
          rcases hr with ⟨r1, r2⟩ | ⟨j, j1, j2, j3, j4⟩
          · subst r1
            rw [if_pos (by decide), if_pos rfl]
            exact take d f
          · have rn : ¬ r = -1 := fun z => by rw [z] at j2; simp only [Int32.reduceToInt] at j2; omega
            have nr : r.toNatClampNeg = j := by rw [mq_cl]; omega
            have ir1 : mm_in r 511 = true := mq_inr (by omega) (by omega)
            have ir2 : mm_in r 512 = true := mq_inr (by omega) (by omega)
            rw [if_neg (by rw [Int32.lt_iff_toInt_lt]; simp only [Int32.reduceToInt]; omega), if_neg rn, if_pos i1, if_pos ir1, if_pos i2, if_pos ir2, nr, nx, ← h1 j (by omega)]
            by_cases w : M2.1 82 k < M2.1 82 j
            · rw [if_pos w, if_pos w]; exact take d f
            · rw [if_neg w, if_neg w]
              refine mq_2_ret (.inl ⟨_, _, rfl, rfl, ⟨rfl, rfl, rfl, k + 1, e1, by omega, .inr ⟨j, by omega, j2, j3, j4⟩⟩, by dsimp only; omega⟩)
        · have nf : ¬ (M2.1 83 k = 0 ∧ x ≠ but) := fun z => f (hiff.mp z)
          rw [if_neg f]
          have ps := pass (fun z => f z.2)
          by_cases g1 : M2.1 83 k = 0
          · have g2 : x = but := Decidable.byContradiction (fun z => nf ⟨g1, z⟩)
            rw [if_pos g1, if_pos g2, if_pos rfl]
            exact ps
          · rw [if_neg g1, if_pos rfl]; exact ps
      · rw [if_neg d, if_neg d, if_pos rfl]
        exact pass (fun z => d z.1)
    · rw [if_neg c, if_neg c]
      rw [Int32.lt_iff_toInt_lt] at c
      have : k = n := by omega
      subst this
      exact mq_2_ret (.inr ⟨_, _, rfl, rfl, rfl, rfl, rfl, hr⟩)
  obtain ⟨b, N2, e, q⟩ := L
  rcases q with ⟨a, M2, e1, rfl, rfl, rfl, q⟩ | ⟨_, _, q⟩
  · exact ⟨_, e1, e, q⟩
  · exact q.elim
/-- free ones -/
def mt_fr (M : mm_M) (i : Nat) : Nat := if 0 < M.1 82 i ∧ M.1 83 i = 0 then 1 else 0
def mt_fw (M : mm_M) (i : Nat) : Nat := if 0 < M.1 82 i ∧ M.1 83 i = 0 then (M.1 82 i).toInt.toNat else 0
theorem mc_sum_z {g : Nat → Nat} : ∀ {n : Nat}, mc_sum g n = 0 → ∀ i, i < n → g i = 0
  | 0, _, i, h => by omega
  | n + 1, h, i, hi => by
    have h : mc_sum g n + g n = 0 := h
    by_cases c : i = n
    · rw [c]; omega
    · exact mc_sum_z (n := n) (by omega) i (by omega)
theorem mc_sum_e {g : Nat → Nat} : ∀ {n : Nat}, 0 < mc_sum g n → ∃ i, i < n ∧ 0 < g i
  | 0, h => by
    have h : 0 < 0 := h
    omega
  | n + 1, h => by
    have h : 0 < mc_sum g n + g n := h
    by_cases c : 0 < g n
    · exact ⟨n, by omega, c⟩
    · obtain ⟨i, i1, i2⟩ := mc_sum_e (n := n) (g := g) (by omega)
      exact ⟨i, by omega, i2⟩
theorem mc_sum_d {g : Nat → Nat} {n j : Nat} (hj : j < n) : mc_sum (fun i => if i = j then 0 else g i) n + g j = mc_sum g n := by
  have := mc_sum_v (f := g) (g := fun i => if i = j then 0 else g i) (i := j) (n := n) hj (fun i _ hi => if_neg hi)
  try dsimp only at this
  rw [if_pos rfl] at this
  omega
theorem mc_sum_l {g : Nat → Nat} {n j : Nat} (hj : j < n) : g j ≤ mc_sum g n := by
  have := mc_sum_d (g := g) hj
  omega
theorem mt_fr_1 {M : mm_M} {i : Nat} (h : 0 < mt_fr M i) : 0 < M.1 82 i ∧ M.1 83 i = 0 := by
  unfold mt_fr at h
  by_cases c : 0 < M.1 82 i ∧ M.1 83 i = 0
  · exact c
  · rw [if_neg c] at h; omega
