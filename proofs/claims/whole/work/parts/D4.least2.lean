/-! THE CALLS: least, in step -/
theorem mq_min (a b : Int32) : (mm_min a b).toInt = if b.toInt < a.toInt then b.toInt else a.toInt := by
  unfold mm_min
  split <;> rename_i c <;> rw [Int32.lt_iff_toInt_lt] at c <;> split <;> omega
/-- the class at one place and one distance -/
theorem mq_lin {M : mm_M} {v2 v3 v4 v6 s : Int32} {k t d g : Nat} (h2 : v2.toInt = k) (h4 : v4.toInt = d) (h6 : v6.toInt = g) (hs : s.toInt = t) (hk : k + g ≤ 300 ∨ g = 0) (hk2 : k ≤ 300) (hg : g ≤ 258) (ht : 3 ≤ t) (ht2 : t ≤ 300) (d1 : 1 ≤ d) (d2 : d ≤ 32768) (hb : ∀ j, k ≤ j → (j ≤ k + g) → 0 ≤ (M.1 33 j).toInt ∧ (M.1 33 j).toInt ≤ 10000) : mq_1 (mf_97_L156 v2 v3 v4 v6 s M) (fun _ M2 => mc_mp (M.1 33 k).toInt (fun l => mc_lc l + 5 + mc_gd d + (M.1 33 (k + l)).toInt) t (g + 1) (M2.1 33 k).toInt ∧ (∀ j, j ≠ k → M2.1 33 j = M.1 33 j) ∧ mq_kp [(33, none)] M M2) := by
  unfold mf_97_L156
  refine mq_1_L (I := fun (x : Int32) M2 => ∃ c : Nat, x.toInt = c ∧ t ≤ c ∧ (c ≤ t ∨ c ≤ g + 1) ∧ mc_mp (M.1 33 k).toInt (fun l => mc_lc l + 5 + mc_gd d + (M.1 33 (k + l)).toInt) t c (M2.1 33 k).toInt ∧ (∀ j, j ≠ k → M2.1 33 j = M.1 33 j) ∧ mq_kp [(33, none)] M M2) (m := fun x _ => (600 - x.toInt).toNat) ?_ ⟨t, hs, by omega, .inl (by omega), mc_mp_0 (by omega), fun _ _ => rfl, mq_kp_refl⟩
  rintro x M2 ⟨c, hx, c1, c2, hm, hj, kp⟩
  unfold mf_97_b156
  by_cases q : v6 < x
  · rw [if_pos q]
    rw [Int32.lt_iff_toInt_lt] at q
    refine mq_1_ret (.inr ⟨_, rfl, ?_, hj, kp⟩)
    by_cases z : c = g + 1
    · rw [← z]; exact hm
    · have : c = t := by omega
      subst this
      obtain ⟨m1, m2, m3⟩ := hm
      refine ⟨m1, fun l l1 l2 => by omega, .inl ?_⟩
      rcases m3 with m3 | ⟨l, l1, l2, -⟩
      · exact m3
      · omega
  · rw [if_neg q]
    rw [Int32.lt_iff_toInt_lt] at q
    have n2 : v2.toNatClampNeg = k := by rw [mq_cl]; omega
    have ea : (v2 + x).toInt = ((k + c : Nat) : Int) := by rw [mi_add]; omega
    have na : (v2 + x).toNatClampNeg = k + c := by rw [mq_cl]; omega
    have e1 : (x + 1).toInt = ((c + 1 : Nat) : Int) := by rw [mi_add]; simp only [Int32.reduceToInt]; omega
    obtain ⟨r, r1, r2⟩ := mq_98 (M := M2) (L := x) (D := v4) hx h4 (by omega) (by omega) d1 d2
    have i1 : mm_in v2 301 = true := mq_inr (by omega) (by omega)
    rw [if_pos i1, r1, mq_Bs, if_pos (mq_inr (by omega) (by omega)), if_pos i1, n2, na]
    have hk' := hb (k + c) (by omega) (by omega)
    have lb := (mq_lcs (l := c) (by omega) (by omega))
    have gb := mq_gd_b d1 d2
    have en : (r + M2.1 33 (k + c)).toInt = mc_lc c + 5 + mc_gd d + (M.1 33 (k + c)).toInt := by rw [mi_add, r2, hj (k + c) (by omega)]; omega
    refine mq_1_ret (.inl ⟨_, rfl, ⟨c + 1, e1, by omega, by omega, ?_, fun j ne => ?_, mq_kp_pi kp rfl⟩, by omega⟩)
    · rw [mq_ps]
      refine mc_mp_s hm (by omega) ?_
      rw [mq_min, en]
    · rw [mq_pj ne]; exact hj j ne
/-- how far the same goes on -/
def mc_rp (T : Nat → Int32) (n k d r : Nat) : Prop := k + r ≤ n ∧ (∀ i, i < r → T (k + i) = T (k + i - d)) ∧ (k + r < n → T (k + r) ≠ T (k + r - d))
/-- the reference at one place and one distance -/
theorem mq_rin {N : mm_M} {T : Nat → Int32} {v1 v2 v3 v4 : Int32} {k d r n : Nat} (h1 : v1.toInt = k) (h3 : v3.toInt = d) (h4 : v4.toInt = 5 + mc_gd d) (hn : (N.1 84 2).toInt = n) (n3 : n ≤ 300) (d1 : 1 ≤ d) (d2 : d ≤ k) (hT : ∀ j, j < n → N.1 85 j = T j) (hr : mc_rp T n k d r) (hv : 0 ≤ v2.toInt) (hb : ∀ j, k < j → j ≤ n → 0 ≤ (N.1 107 j).toInt ∧ (N.1 107 j).toInt ≤ 10000) : mq_1 (mf_287_L79 v1 v3 v4 (v2, 0) N) (fun b N2 => N2 = N ∧ mc_mp v2.toInt (fun l => mc_lc l + 5 + mc_gd d + (N.1 107 (k + l)).toInt) 3 (min r 258 + 1) b.toInt) := by
  obtain ⟨p1, p2, p3⟩ := hr
  unfold mf_287_L79
  refine mq_1_L (I := fun (x : Int32 × Int32) N2 => N2 = N ∧ ∃ c : Nat, x.2.toInt = c ∧ c ≤ min r 258 ∧ mc_mp v2.toInt (fun l => mc_lc l + 5 + mc_gd d + (N.1 107 (k + l)).toInt) 3 (c + 1) x.1.toInt) (m := fun x _ => (600 - x.2.toInt).toNat) ?_ ⟨rfl, 0, rfl, by omega, mc_mp_0 (by omega)⟩
  rintro ⟨b, x⟩ N2 ⟨rfl, c, hx, hc, hm⟩
  dsimp only at hx hm ⊢
  unfold mf_287_b79
  have ea : (v1 + x).toInt = ((k + c : Nat) : Int) := by rw [mi_add]; omega
  have na : (v1 + x).toNatClampNeg = k + c := by rw [mq_cl]; omega
  have eb : (v1 + x - v3).toInt = ((k + c - d : Nat) : Int) := by rw [mi_sub, ea]; omega
  have nb : (v1 + x - v3).toNatClampNeg = k + c - d := by rw [mq_cl]; omega
  have e1 : (x + 1).toInt = ((c + 1 : Nat) : Int) := by rw [mi_add]; simp only [Int32.reduceToInt]; omega
  have done : c = min r 258 → mq_1 (some (.inl (.inr b), N2) : mm_O ((Int32 × Int32) ⊕ Int32)) (fun t N3 => (∃ a2, t = .inl a2 ∧ (N3 = N2 ∧ ∃ c : Nat, a2.2.toInt = c ∧ c ≤ min r 258 ∧ mc_mp v2.toInt (fun l => mc_lc l + 5 + mc_gd d + (N2.1 107 (k + l)).toInt) 3 (c + 1) a2.1.toInt) ∧ (600 - a2.2.toInt).toNat < (600 - x.toInt).toNat) ∨ (∃ u, t = .inr u ∧ N3 = N2 ∧ mc_mp v2.toInt (fun l => mc_lc l + 5 + mc_gd d + (N2.1 107 (k + l)).toInt) 3 (min r 258 + 1) u.toInt)) := fun z => mq_1_ret (.inr ⟨_, rfl, rfl, by rw [← z]; exact hm⟩)
  by_cases q1 : v1 + x < N2.1 84 2
  · rw [if_pos q1]
    rw [Int32.lt_iff_toInt_lt] at q1
    by_cases q2 : x < 258
    · rw [if_pos q2]
      rw [Int32.lt_iff_toInt_lt] at q2
      simp only [Int32.reduceToInt] at q2
      rw [if_pos (mq_inr (by omega) (by omega)), if_pos (mq_inr (by omega) (by omega)), na, nb, hT (k + c) (by omega), hT (k + c - d) (by omega)]
      by_cases q3 : T (k + c) = T (k + c - d)
      · rw [if_pos q3]
        have cr : c < r := by
          apply Decidable.byContradiction
          intro z
          have : c = r := by omega
          subst this
          exact p3 (by omega) q3
        by_cases q4 : x + 1 < 3
        · rw [if_pos q4]
          rw [Int32.lt_iff_toInt_lt, e1] at q4
          simp only [Int32.reduceToInt] at q4
          refine mq_1_ret (.inl ⟨_, rfl, ⟨rfl, c + 1, e1, by omega, ?_⟩, by dsimp only; omega⟩)
          obtain ⟨m1, m2, m3⟩ := hm
          refine ⟨m1, fun l l1 l2 => by omega, ?_⟩
          rcases m3 with m3 | ⟨l, l1, l2, -⟩
          · exact .inl m3
          · omega
        · rw [if_neg q4]
          rw [Int32.lt_iff_toInt_lt, e1] at q4
          simp only [Int32.reduceToInt] at q4
          obtain ⟨lb1, lb2, lb3⟩ := mq_lcs (l := c + 1) (by omega) (by omega)
          obtain ⟨s, e, w, -, -, -, w1, w2, w3, w4⟩ := lb3 (x + 1) e1 N2 N2
          have gb := mq_gd_b (d := d) d1 (by omega)
          have hk' := hb (k + (c + 1)) (by omega) (by omega)
          have ec : (v1 + (x + 1)).toInt = ((k + (c + 1) : Nat) : Int) := by rw [mi_add, e1]; omega
          have nc : (v1 + (x + 1)).toNatClampNeg = k + (c + 1) := by rw [mq_cl]; omega
          rw [w1, mq_Bs, w2, mq_Bs, w3, mq_Bs, if_pos (mq_inr (by omega) (by omega)), nc]
          have en : (w + e + v4 + N2.1 107 (k + (c + 1))).toInt = mc_lc (c + 1) + 5 + mc_gd d + (N2.1 107 (k + (c + 1))).toInt := by rw [mi_add, mi_add, w4, h4]; omega
          by_cases q5 : w + e + v4 + N2.1 107 (k + (c + 1)) < b
          · rw [if_pos q5]
            rw [Int32.lt_iff_toInt_lt, en] at q5
            refine mq_1_ret (.inl ⟨_, rfl, ⟨rfl, c + 1, e1, by omega, mc_mp_s hm (by omega) ?_⟩, by dsimp only; omega⟩)
            dsimp only
            rw [if_pos q5, en]
          · rw [if_neg q5]
            rw [Int32.lt_iff_toInt_lt, en] at q5
            refine mq_1_ret (.inl ⟨_, rfl, ⟨rfl, c + 1, e1, by omega, mc_mp_s hm (by omega) ?_⟩, by dsimp only; omega⟩)
            dsimp only
            rw [if_neg q5]
      · rw [if_neg q3]
        refine done ?_
        have : ¬ c < r := fun z => q3 (p2 c z)
        omega
    · rw [if_neg q2]
      rw [Int32.lt_iff_toInt_lt] at q2
      simp only [Int32.reduceToInt] at q2
      exact done (by omega)
  · rw [if_neg q1]
    rw [Int32.lt_iff_toInt_lt] at q1
    exact done (by omega)
