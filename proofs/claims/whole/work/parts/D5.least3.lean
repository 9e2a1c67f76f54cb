/-! THE CALLS: least, all places -/
theorem mc_rp_s {T : Nat → Int32} {n k d r : Nat} (h : mc_rp T n (k + 1) d r) (hd : d ≤ k) (e : T k = T (k - d)) : mc_rp T n k d (r + 1) := by
  obtain ⟨h1, h2, h3⟩ := h
  refine ⟨by omega, fun i hi => ?_, fun hn => ?_⟩
  · cases i with
    | zero => exact e
    | succ i =>
      have := h2 i (by omega)
      rw [show k + (i + 1) = k + 1 + i by omega]
      exact this
  · rw [show k + (r + 1) = k + 1 + r by omega]
    exact h3 (by omega)
theorem mc_rp_0 {T : Nat → Int32} {n k d : Nat} (hk : k ≤ n) (e : k < n → T k ≠ T (k - d)) : mc_rp T n k d 0 := ⟨by omega, fun i hi => absurd hi (Nat.not_lt_zero _), fun h => e (by omega)⟩
theorem mc_mp_eq {V : Int} {f1 f2 : Nat → Int} {a c V1 V2 : Int} {g0 g : Nat} (h1 : mc_mp V f1 (g0 + 1) (g + 1) V1) (h2 : mc_mp V f2 3 (g + 1) V2) (hf : ∀ l, 3 ≤ l → l ≤ g → f1 l = f2 l) (hg : 2 ≤ g0) (hi : ∀ l, 3 ≤ l → l ≤ g0 → l ≤ g → V ≤ f2 l) : V1 = V2 := by
  obtain ⟨a1, a2, a3⟩ := h1
  obtain ⟨b1, b2, b3⟩ := h2
  have x1 : V2 ≤ V1 := by
    rcases a3 with a3 | ⟨l, l1, l2, l3⟩
    · omega
    · have := b2 l (by omega) l2
      have := hf l (by omega) (by omega)
      omega
  have x2 : V1 ≤ V2 := by
    rcases b3 with b3 | ⟨l, l1, l2, l3⟩
    · omega
    · by_cases z : l ≤ g0
      · have := hi l l1 z (by omega)
        omega
      · have := a2 l (by omega) l2
        have := hf l (by omega) (by omega)
        omega
  omega
theorem mq_ldist {M N : mm_M} {T : Nat → Int32} {v b : Int32} {k n : Nat} (hv : v.toInt = k) (hkn : k < n) (n3 : n ≤ 300) (hn : (N.1 84 2).toInt = n) (hT : ∀ j, j < n → M.1 2 j = T j ∧ N.1 85 j = T j) (hb : M.1 33 k = b) (hb0 : 0 ≤ b.toInt) (hb1 : b.toInt ≤ 10000) (hh : ∀ j, k < j → j ≤ n → M.1 33 j = N.1 107 j ∧ 0 ≤ (M.1 33 j).toInt ∧ (M.1 33 j).toInt ≤ 10000) (hr : ∀ d, 1 ≤ d → d ≤ k → ∃ r : Nat, (M.1 34 d).toInt = r ∧ mc_rp T n (k + 1) d r) : mq_2 mq_F (mf_97_L74 v (2, 1) M) (mf_287_L60 v (b, 1) N) (fun _ M2 c N2 => N2 = N ∧ M2.1 33 k = c ∧ 0 ≤ c.toInt ∧ c.toInt ≤ b.toInt ∧ (∀ j, j ≠ k → M2.1 33 j = M.1 33 j) ∧ (∀ d, 1 ≤ d → d ≤ k → ∃ r : Nat, (M2.1 34 d).toInt = r ∧ mc_rp T n k d r) ∧ mq_kp [(33, none), (34, none)] M M2) := by
  unfold mf_97_L74 mf_287_L60
  refine mq_2_Lf (I := fun (a : Int32 × Int32) M2 (y : Int32 × Int32) N2 => N2 = N ∧ ∃ d g : Nat, a.2.toInt = d ∧ y.2 = a.2 ∧ 1 ≤ d ∧ d ≤ k + 1 ∧ a.1.toInt = g ∧ 2 ≤ g ∧ g ≤ 258 ∧ M2.1 33 k = y.1 ∧ 0 ≤ y.1.toInt ∧ y.1.toInt ≤ b.toInt ∧ (∀ j, j ≠ k → M2.1 33 j = M.1 33 j) ∧ (∀ d', 1 ≤ d' → d' < d → ∃ r : Nat, (M2.1 34 d').toInt = r ∧ mc_rp T n k d' r) ∧ (∀ d', d ≤ d' → M2.1 34 d' = M.1 34 d') ∧ (∀ l, 3 ≤ l → l ≤ g → ∀ d', d ≤ d' → d' ≤ 300 → y.1.toInt ≤ mc_lc l + 5 + mc_gd d' + (M.1 33 (k + l)).toInt) ∧ mq_kp [(33, none), (34, none)] M M2) (m := fun a _ => (400 - a.2.toInt).toNat) ?_ ⟨rfl, 1, 2, rfl, rfl, by omega, by omega, rfl, by omega, by omega, hb, hb0, Int.le_refl _, fun _ _ => rfl, fun d' x1 x2 => by omega, fun _ _ => rfl, fun l l1 l2 => by omega, mq_kp_refl⟩
  rintro ⟨v3, v4⟩ M2 ⟨bb, v5⟩ N2 ⟨rfl, d, g, hd, hy, d1, dk, hg, g2, g8, e1, e2, e3, f1, f2, f3, f4, kp⟩
  dsimp only at hd hy hg e1 e2 e3 f4 ⊢
  subst hy
  unfold mf_97_b74 mf_287_b60
  by_cases q : v < v5
  · rw [if_pos q, if_pos q]
    rw [Int32.lt_iff_toInt_lt] at q
    exact mq_2_ret (.inr ⟨_, _, rfl, rfl, rfl, e1, e2, e3, f1, fun d' x1 x2 => f2 d' x1 (by omega), kp⟩)
  · rw [if_neg q, if_neg q]
    rw [Int32.lt_iff_toInt_lt] at q
    have nv : v.toNatClampNeg = k := by rw [mq_cl]; omega
    have es : (v - v5).toInt = ((k - d : Nat) : Int) := by rw [mi_sub]; omega
    have ns : (v - v5).toNatClampNeg = k - d := by rw [mq_cl]; omega
    have nd : v5.toNatClampNeg = d := by rw [mq_cl]; omega
    have i5 : mm_in v5 301 = true := mq_inr (by omega) (by omega)
    rw [if_pos (mq_inr (by omega) (by omega)), if_pos (mq_inr (by omega) (by omega)), nv, ns, (kp 2 k rfl).1, (kp 2 (k - d) rfl).1, (hT k hkn).1, (hT (k - d) (by omega)).1]
    obtain ⟨r, r1, r2⟩ := hr d d1 (by omega)
    have r3 := r2.1
    have key : ∃ (s2 : Int32) (r' : Nat), (if T k = T (k - d) then mf_97_j109 v v3 v5 1 M2 else mf_97_j109 v v3 v5 0 M2) = mf_97_j135 v v3 v5 v5 s2 M2 ∧ s2.toInt = r' ∧ mc_rp T n k d r' := by
      by_cases c : T k = T (k - d)
      · rw [if_pos c]
        refine ⟨M2.1 34 d + 1, r + 1, ?_, ?_, mc_rp_s r2 (by omega) c⟩
        · unfold mf_97_j109
          rw [if_neg (by decide), if_pos i5, nd]
        · rw [f3 d (Nat.le_refl _), mi_add, r1]
          simp only [Int32.reduceToInt]
          omega
      · rw [if_neg c]
        exact ⟨0, 0, by unfold mf_97_j109; rw [if_pos rfl], rfl, mc_rp_0 (by omega) (fun _ => c)⟩
    obtain ⟨s2, r', x1, x2, x3⟩ := key
    have x4 := x3.1
    rw [x1]
    unfold mf_97_j135
    rw [if_pos i5, if_pos i5, nd, mq_ps]
    have hm : (mm_min s2 258).toInt = ((min r' 258 : Nat) : Int) := by
      rw [mq_min]
      simp only [Int32.reduceToInt]
      split <;> omega
    have e31 : (v3 + 1).toInt = ((g + 1 : Nat) : Int) := by rw [mi_add]; simp only [Int32.reduceToInt]; omega
    have old : ∀ j, j ≠ k → (mm_pi M2 34 d s2).1 33 j = M.1 33 j := fun j ne => by rw [mq_pn (by decide)]; exact f1 j ne
    have oldk : (mm_pi M2 34 d s2).1 33 k = bb := by rw [mq_pn (by decide)]; exact e1
    obtain ⟨u, M3, z1, z2, z3, z4⟩ := mq_lin (M := mm_pi M2 34 d s2) (v2 := v) (v3 := v3) (v4 := v5) (v6 := mm_min s2 258) (s := v3 + 1) (k := k) (t := g + 1) (d := d) (g := min r' 258) hv hd hm e31 (.inl (by omega)) (by omega) (by omega) (by omega) (by omega) d1 (by omega) (fun j j1 j2 => by
      by_cases z : j = k
      · rw [z, oldk]; exact ⟨e2, by omega⟩
      · rw [old j z]
        exact (hh j (by omega) (by omega)).2)
    rw [z1, mq_Bs]
    obtain ⟨-, -, -, c1⟩ := mq_gk d1 (by omega : d ≤ 32768)
    obtain ⟨s, e, -, y1, y2, y3⟩ := c1 v5 hd M N2
    have gb := mq_gd_b d1 (by omega : d ≤ 32768)
    rw [y1, mq_Bs, y2, mq_Bs]
    have e5 : (5 + e).toInt = 5 + mc_gd d := by rw [mi_add, y3]; simp only [Int32.reduceToInt]; omega
    obtain ⟨B, N3, w1, rfl, w2⟩ := mq_rin (N := N2) (T := T) (v1 := v) (v2 := bb) (v3 := v5) (v4 := 5 + e) (k := k) (d := d) (r := r') (n := n) hv hd e5 hn n3 d1 (by omega) (fun j hj => (hT j hj).2) x3 e2 (fun j j1 j2 => by rw [← (hh j j1 j2).1]; exact (hh j j1 j2).2)
    rw [w1, mq_Bs]
    unfold mf_97_j201
    rw [oldk] at z2
    have heq : (M3.1 33 k).toInt = B.toInt := mc_mp_eq (a := 0) (c := 0) z2 w2 (fun l l1 l2 => by
      rw [old (k + l) (by omega), (hh (k + l) (by omega) (by omega)).1]) g2 (fun l l1 l2 l3 => by
      rw [← (hh (k + l) (by omega) (by omega)).1]
      exact f4 l l1 l2 d (Nat.le_refl _) (by omega))
    have ev : (v5 + 1).toInt = ((d + 1 : Nat) : Int) := by rw [mi_add]; simp only [Int32.reduceToInt]; omega
    have hmx : (mm_max v3 (mm_min s2 258)).toInt = ((max g (min r' 258) : Nat) : Int) := by
      unfold mm_max
      split <;> rename_i c <;> rw [Int32.lt_iff_toInt_lt] at c <;> omega
    have nb : 0 ≤ B.toInt := by
      rcases w2.2.2 with w3 | ⟨l, l1, l2, l3⟩
      · omega
      · have a1 := (hh (k + l) (by omega) (by omega))
        rw [a1.1] at a1
        have a2 := (mq_lcs (l := l) l1 (by omega)).1
        dsimp only at l3
        omega
    refine mq_2_ret (.inl ⟨_, _, rfl, rfl, ⟨rfl, d + 1, max g (min r' 258), ev, rfl, by omega, by omega, hmx, by omega, by omega, Int32.toInt_inj.mp heq, nb, ?_, fun j ne => by rw [z3 j ne, old j ne], fun d' a1 a2 => ?_, fun d' a1 => ?_, fun l l1 l2 d' a1 a2 => ?_, ?_⟩, by dsimp only; omega⟩)
    · have := w2.1
      dsimp only
      omega
    · rw [(z4 34 d' rfl).1]
      by_cases z : d' = d
      · rw [z, mq_ps]; exact ⟨r', x2, x3⟩
      · rw [mq_pj z]; exact f2 d' a1 (by omega)
    · rw [(z4 34 d' rfl).1, mq_pj (by omega)]; exact f3 d' (by omega)
    · dsimp only
      have wb := w2.1
      by_cases z : l ≤ g
      · have := f4 l l1 z d' (by omega) a2
        omega
      · have a3 := w2.2.1 l l1 (by omega)
        have a4 := mq_gd_m (d := d) (e := d') d1 (by omega) (by omega)
        have a5 := (hh (k + l) (by omega) (by omega)).1
        dsimp only at a3
        rw [← a5] at a3
        omega
    · exact mq_kp_trans (mq_kp_pi kp rfl) (mq_kp_sub z4 rfl)
