/-! THE CALLS: least, all places -/
theorem mc_rp_s {T : Nat → Int32} {n k d r : Nat} (h : mc_rp T n (k + 1) d r) (hd : d ≤ k) (e : T k = T (k - d)) : mc_rp T n k d (r + 1) := by
  obtain ⟨h1, h2, h3⟩ := h
  refine ⟨by omega, fun i hi => ?_, fun hn => ?_⟩
  · cases i with
    | zero => exact e
    | succ i =>
      have := h2 i (by omega)
      rw [show k + (i + 1) = k + 1 + i by omega]
      exact this
  · rw [show k + (r + 1) = k + 1 + r by omega]
    exact h3 (by omega)
theorem mc_rp_0 {T : Nat → Int32} {n k d : Nat} (hk : k ≤ n) (e : k < n → T k ≠ T (k - d)) : mc_rp T n k d 0 := ⟨by omega, fun i hi => absurd hi (Nat.not_lt_zero _), fun h => e (by omega)⟩
theorem mc_mp_eq {V : Int} {f1 f2 : Nat → Int} {a c V1 V2 : Int} {g0 g : Nat} (h1 : mc_mp V f1 (g0 + 1) (g + 1) V1) (h2 : mc_mp V f2 3 (g + 1) V2) (hf : ∀ l, 3 ≤ l → l ≤ g → f1 l = f2 l) (hg : 2 ≤ g0) (hi : ∀ l, 3 ≤ l → l ≤ g0 → l ≤ g → V ≤ f2 l) : V1 = V2 := by
  obtain ⟨a1, a2, a3⟩ := h1
  obtain ⟨b1, b2, b3⟩ := h2
  have x1 : V2 ≤ V1 := by
    rcases a3 with a3 | ⟨l, l1, l2, l3⟩
    · omega
    · have := b2 l (by omega) l2
      have := hf l (by omega) (by omega)
      omega
  have x2 : V1 ≤ V2 := by
    rcases b3 with b3 | ⟨l, l1, l2, l3⟩
    · omega
    · by_cases z : l ≤ g0
      · have := hi l l1 z (by omega)
        omega
      · have := a2 l (by omega) l2
        have := hf l (by omega) (by omega)
        omega
  omega
theorem mq_ldist {M N : mm_M} {T : Nat → Int32} {v b : Int32} {k n : Nat} (hv : v.toInt = k) (hkn : k < n) (n3 : n ≤ 300) (hn : (N.1 84 2).toInt = n) (hT : ∀ j, j < n → M.1 2 j = T j ∧ N.1 85 j = T j) (hb : M.1 33 k = b) (hb0 : 0 ≤ b.toInt) (hb1 : b.toInt ≤ 10000) (hh : ∀ j, k < j → j ≤ n → M.1 33 j = N.1 107 j ∧ 0 ≤ (M.1 33 j).toInt ∧ (M.1 33 j).toInt ≤ 10000) (hr : ∀ d, 1 ≤ d → d ≤ k → ∃ r : Nat, (M.1 34 d).toInt = r ∧ mc_rp T n (k + 1) d r) : mq_2 mq_F (mf_97_L74 v (2, 1) M) (mf_287_L60 v (b, 1) N) (fun _ M2 c N2 => N2 = N ∧ M2.1 33 k = c ∧ 0 ≤ c.toInt ∧ c.toInt ≤ b.toInt ∧ (∀ j, j ≠ k → M2.1 33 j = M.1 33 j) ∧ (∀ d, 1 ≤ d → d ≤ k → ∃ r : Nat, (M2.1 34 d).toInt = r ∧ mc_rp T n k d r) ∧ mq_kp [(33, none), (34, none)] M M2) := by
  unfold mf_97_L74 mf_287_L60
  refine mq_2_Lf (I := fun (a : Int32 × Int32) M2 (y : Int32 × Int32) N2 => N2 = N ∧ ∃ d g : Nat, a.2.toInt = d ∧ y.2 = a.2 ∧ 1 ≤ d ∧ d ≤ k + 1 ∧ a.1.toInt = g ∧ 2 ≤ g ∧ g ≤ 258 ∧ M2.1 33 k = y.1 ∧ 0 ≤ y.1.toInt ∧ y.1.toInt ≤ b.toInt ∧ (∀ j, j ≠ k → M2.1 33 j = M.1 33 j) ∧ (∀ d', 1 ≤ d' → d' < d → ∃ r : Nat, (M2.1 34 d').toInt = r ∧ mc_rp T n k d' r) ∧ (∀ d', d ≤ d' → M2.1 34 d' = M.1 34 d') ∧ (∀ l, 3 ≤ l → l ≤ g → ∀ d', d ≤ d' → d' ≤ 300 → y.1.toInt ≤ mc_lc l + 5 + mc_gd d' + (M.1 33 (k + l)).toInt) ∧ mq_kp [(33, none), (34, none)] M M2) (m := fun a _ => (400 - a.2.toInt).toNat) ?_ ⟨rfl, 1, 2, rfl, rfl, by omega, by omega, rfl, by omega, by omega, hb, hb0, by omega, fun _ _ => rfl, fun d' x1 x2 => by omega, fun _ _ => rfl, fun l l1 l2 => by omega, mq_kp_refl⟩
  rintro ⟨v3, v4⟩ M2 ⟨bb, v5⟩ N2 ⟨rfl, d, g, hd, hy, d1, dk, hg, g2, g8, e1, e2, e3, f1, f2, f3, f4, kp⟩
  dsimp only at hd hy hg e1 e2 e3 f4 ⊢
  subst hy
  unfold mf_97_b74 mf_287_b60
  by_cases q : v < v5
  · rw [if_pos q, if_pos q]
    rw [Int32.lt_iff_toInt_lt] at q
    exact mq_2_ret (.inr ⟨_, _, rfl, rfl, rfl, e1, e2, e3, f1, fun d' x1 x2 => f2 d' x1 (by omega), kp⟩)
  · rw [if_neg q, if_neg q]
    rw [Int32.lt_iff_toInt_lt] at q
    have nv : v.toNatClampNeg = k := by rw [mq_cl]; omega
    have es : (v - v5).toInt = ((k - d : Nat) : Int) := by rw [mi_sub]; omega
    have ns : (v - v5).toNatClampNeg = k - d := by rw [mq_cl]; omega
    have nd : v5.toNatClampNeg = d := by rw [mq_cl]; omega
    have i5 : mm_in v5 301 = true := mq_inr (by omega) (by omega)
    rw [if_pos (mq_inr (by omega) (by omega)), if_pos (mq_inr (by omega) (by omega)), nv, ns, (kp 2 k rfl).1, (kp 2 (k - d) rfl).1, (hT k hkn).1, (hT (k - d) (by omega)).1]
    obtain ⟨r, r1, r2⟩ := hr d d1 (by omega)
    have r3 := r2.1
    have key : ∃ (s2 : Int32) (r' : Nat), (if T k = T (k - d) then mf_97_j109 v v3 v5 1 M2 else mf_97_j109 v v3 v5 0 M2) = mf_97_j135 v v3 v5 v5 s2 M2 ∧ s2.toInt = r' ∧ mc_rp T n k d r' := by
      by_cases c : T k = T (k - d)
      · rw [if_pos c]
        refine ⟨M2.1 34 d + 1, r + 1, ?_, ?_, mc_rp_s r2 (by omega) c⟩
        · unfold mf_97_j109
          rw [if_neg (by decide), if_pos i5, nd]
        · rw [f3 d (Nat.le_refl _), mi_add, r1]
          simp only [Int32.reduceToInt]
          omega
      · rw [if_neg c]
        exact ⟨0, 0, by unfold mf_97_j109; rw [if_pos rfl], rfl, mc_rp_0 (by omega) (fun _ => c)⟩
    obtain ⟨s2, r', x1, x2, x3⟩ := key
    have x4 := x3.1
    rw [x1]
    unfold mf_97_j135
    rw [if_pos i5, if_pos i5, nd, mq_ps]
    have hm : (mm_min s2 258).toInt = ((min r' 258 : Nat) : Int) := by
      rw [mq_min]
      simp only [Int32.reduceToInt]
      split <;> omega
    have e31 : (v3 + 1).toInt = ((g + 1 : Nat) : Int) := by rw [mi_add]; simp only [Int32.reduceToInt]; omega
    have old : ∀ j, j ≠ k → (mm_pi M2 34 d s2).1 33 j = M.1 33 j := fun j ne => by rw [mq_pn (by decide)]; exact f1 j ne
    have oldk : (mm_pi M2 34 d s2).1 33 k = bb := by rw [mq_pn (by decide)]; exact e1
    obtain ⟨u, M3, z1, z2, z3, z4⟩ := mq_lin (M := mm_pi M2 34 d s2) (v2 := v) (v3 := v3) (v4 := v5) (v6 := mm_min s2 258) (s := v3 + 1) (k := k) (t := g + 1) (d := d) (g := min r' 258) hv hd hm e31 (.inl (by omega)) (by omega) (by omega) (by omega) (by omega) d1 (by omega) (fun j j1 j2 => by
      by_cases z : j = k
      · rw [z, oldk]; exact ⟨e2, by omega⟩
      · rw [old j z]
        exact (hh j (by omega) (by omega)).2)
    rw [z1, mq_Bs]
    obtain ⟨-, -, -, c1⟩ := mq_gk d1 (by omega : d ≤ 32768)
    obtain ⟨s, e, -, y1, y2, y3⟩ := c1 v5 hd M N2
    have gb := mq_gd_b d1 (by omega : d ≤ 32768)
    rw [y1, mq_Bs, y2, mq_Bs]
    have e5 : (5 + e).toInt = 5 + mc_gd d := by rw [mi_add, y3]; simp only [Int32.reduceToInt]; omega
    obtain ⟨B, N3, w1, rfl, w2⟩ := mq_rin (N := N2) (T := T) (v1 := v) (v2 := bb) (v3 := v5) (v4 := 5 + e) (k := k) (d := d) (r := r') (n := n) hv hd e5 hn n3 d1 (by omega) (fun j hj => (hT j hj).2) x3 e2 (fun j j1 j2 => by rw [← (hh j j1 j2).1]; exact (hh j j1 j2).2)
    rw [w1, mq_Bs]
    unfold mf_97_j201
    rw [oldk] at z2
    have heq : (M3.1 33 k).toInt = B.toInt := mc_mp_eq (a := 0) (c := 0) z2 w2 (fun l l1 l2 => by
      dsimp only
      rw [old (k + l) (by omega), (hh (k + l) (by omega) (by omega)).1]) g2 (fun l l1 l2 l3 => by
      dsimp only
      rw [← (hh (k + l) (by omega) (by omega)).1]
      exact f4 l l1 l2 d (Nat.le_refl _) (by omega))
    have ev : (v5 + 1).toInt = ((d + 1 : Nat) : Int) := by rw [mi_add]; simp only [Int32.reduceToInt]; omega
    have hmx : (mm_max v3 (mm_min s2 258)).toInt = ((max g (min r' 258) : Nat) : Int) := by
      unfold mm_max
      split <;> rename_i c <;> rw [Int32.lt_iff_toInt_lt] at c <;> omega
    have nb : 0 ≤ B.toInt := by
      rcases w2.2.2 with w3 | ⟨l, l1, l2, l3⟩
      · omega
      · have a1 := (hh (k + l) (by omega) (by omega))
        rw [a1.1] at a1
        have a2 := (mq_lcs (l := l) l1 (by omega)).1
        dsimp only at l3
        omega
    refine mq_2_ret (.inl ⟨_, _, rfl, rfl, ⟨rfl, d + 1, max g (min r' 258), ev, rfl, by omega, by omega, hmx, by omega, by omega, Int32.toInt_inj.mp heq, nb, ?_, fun j ne => by rw [z3 j ne, old j ne], fun d' a1 a2 => ?_, fun d' a1 => ?_, fun l l1 l2 d' a1 a2 => ?_, ?_⟩, by dsimp only; omega⟩)
    · have := w2.1
      dsimp only
      omega
    · rw [(z4 34 d' rfl).1]
      by_cases z : d' = d
      · rw [z, mq_ps]; exact ⟨r', x2, x3⟩
      · rw [mq_pj z]; exact f2 d' a1 (by omega)
    · rw [(z4 34 d' rfl).1, mq_pj (by omega)]; exact f3 d' (by omega)
    · dsimp only
      have wb := w2.1
      by_cases z : l ≤ g
      · have := f4 l l1 z d' (by omega) a2
        omega
      · have a3 := w2.2.1 l l1 (by omega)
        have a4 := mq_gd_m (d := d) (e := d') d1 (by omega) (by omega)
        have a5 := (hh (k + l) (by omega) (by omega)).1
        dsimp only at a3
        rw [← a5] at a3
        omega
    · exact mq_kp_trans (mq_kp_pi kp rfl) (mq_kp_sub z4 rfl)
theorem mq_lall {M N : mm_M} {T : Nat → Int32} {x : Int32} {n : Nat} (hx : x.toInt = (n : Int) - 1) (n3 : n ≤ 300) (hn : (N.1 84 2).toInt = n) (hT : ∀ j, j < n → M.1 2 j = T j ∧ N.1 85 j = T j ∧ 0 ≤ (T j).toInt) (h33 : M.1 33 n = 7) (h107 : N.1 107 n = 7) (h34 : ∀ d, d ≤ 300 → M.1 34 d = 0) : mq_2 mq_F (mf_97_L38 x M) (mf_287_L35 x N) (fun _ M2 _ N2 => M2.1 33 0 = N2.1 107 0 ∧ mq_kp [(33, none), (34, none)] M M2 ∧ mq_kp [(107, none)] N N2) := by
  unfold mf_97_L38 mf_287_L35
  refine mq_2_Lf (I := fun (a : Int32) M2 (y : Int32) N2 => y = a ∧ ∃ k : Nat, a.toInt = (k : Int) - 1 ∧ k ≤ n ∧ (∀ j, k ≤ j → j ≤ n → M2.1 33 j = N2.1 107 j ∧ 0 ≤ (M2.1 33 j).toInt ∧ (M2.1 33 j).toInt ≤ 20 * ((n : Int) + 1 - j)) ∧ (∀ d, 1 ≤ d → d ≤ k → ∃ r : Nat, (M2.1 34 d).toInt = r ∧ mc_rp T n k d r) ∧ mq_kp [(33, none), (34, none)] M M2 ∧ mq_kp [(107, none)] N N2) (m := fun a _ => (a.toInt + 1).toNat) ?_ ⟨rfl, n, hx, Nat.le_refl _, fun j j1 j2 => ?_, fun d d1 d2 => ⟨0, by rw [h34 d (by omega)]; rfl, mc_rp_0 (Nat.le_refl _) (fun z => by omega)⟩, mq_kp_refl, mq_kp_refl⟩
  · rintro a M2 y N2 ⟨rfl, k, ha, hk, h1, h2, k1, k2⟩
    unfold mf_97_b38 mf_287_b35
    by_cases q : y < 0
    · rw [if_pos q, if_pos q]
      rw [Int32.lt_iff_toInt_lt] at q
      simp only [Int32.reduceToInt] at q
      have : k = 0 := by omega
      subst this
      exact mq_2_ret (.inr ⟨_, _, rfl, rfl, (h1 0 (by omega) (by omega)).1, k1, k2⟩)
    · rw [if_neg q, if_neg q]
      rw [Int32.lt_iff_toInt_lt] at q
      simp only [Int32.reduceToInt] at q
      obtain ⟨i, rfl⟩ : ∃ i, k = i + 1 := ⟨k - 1, by omega⟩
      have ny : y.toNatClampNeg = i := by rw [mq_cl]; omega
      have e1 : (y + 1).toInt = ((i + 1 : Nat) : Int) := by rw [mi_add]; simp only [Int32.reduceToInt]; omega
      have n1 : (y + 1).toNatClampNeg = i + 1 := by rw [mq_cl]; omega
      have hin : mm_in y 10000 = true := mq_inr (by omega) (by omega)
      have hin3 : mm_in y 301 = true := mq_inr (by omega) (by omega)
      have hin4 : mm_in (y + 1) 301 = true := mq_inr (by omega) (by omega)
      obtain ⟨t1, t2, t3⟩ := hT i (by omega)
      rw [if_pos hin, if_pos hin, ny, (k1 2 i rfl).1, (k2 85 i rfl).1, t1, t2]
      obtain ⟨r, r1, r2⟩ := mq_82 (M := M2) (x := T i) (s := (T i).toInt.toNat) (by omega)
      obtain ⟨r', r3, r4⟩ := mq_82 (M := N2) (x := T i) (s := (T i).toInt.toNat) (by omega)
      obtain rfl : r = r' := Int32.toInt_inj.mp (by omega)
      have r3' : mf_286 (T i) N2 = some (.inl r, N2) := r3
      have kf := mc_kf_le (T i).toInt.toNat
      rw [r1, r3', mq_Bs, mq_Bs, if_pos hin4, if_pos hin4, if_pos hin3, n1]
      obtain ⟨p1, p2, p3⟩ := h1 (i + 1) (by omega) (by omega)
      rw [← p1]
      have eb : (r + M2.1 33 (i + 1)).toInt = r.toInt + (M2.1 33 (i + 1)).toInt := by rw [mi_add]; omega
      have D := mq_ldist (M := mm_pi M2 33 i (r + M2.1 33 (i + 1))) (N := N2) (T := T) (v := y) (b := r + M2.1 33 (i + 1)) (k := i) (n := n) (by omega) (by omega) n3 (by rw [(k2 84 2 rfl).1]; exact hn) (fun j hj => ⟨by rw [mq_pn (by decide), (k1 2 j rfl).1]; exact (hT j hj).1, by rw [(k2 85 j rfl).1]; exact (hT j hj).2.1⟩) mq_ps (by omega) (by omega) (fun j j1 j2 => by
        rw [mq_pj (by omega)]
        obtain ⟨a1, a2, a3⟩ := h1 j (by omega) j2
        exact ⟨a1, a2, by omega⟩) (fun d d1 d2 => by rw [mq_pn (by decide)]; exact h2 d d1 (by omega))
      obtain ⟨c, N3, y1, D⟩ := D
      rcases D with ⟨u, M3, x1, rfl, g1, g2, g3, g4, g5, g6⟩ | ⟨_, _, D⟩
      · rw [x1, y1, mq_Bs, mq_Bs]
        unfold mf_287_j185
        rw [if_pos hin3, ny]
        have ed : (y + (-1)).toInt = (i : Int) - 1 := by rw [mi_add]; simp only [Int32.reduceToInt]; omega
        refine mq_2_ret (.inl ⟨_, _, rfl, rfl, ⟨rfl, i, ed, by omega, fun j j1 j2 => ?_, g5, mq_kp_trans (mq_kp_pi k1 rfl) g6, mq_kp_pi k2 rfl⟩, by omega⟩)
        by_cases z : j = i
        · rw [z, mq_ps, g1]
          exact ⟨rfl, g2, by omega⟩
        · rw [mq_pj z, g4 j z, mq_pj z]
          exact h1 j (by omega) j2
      · exact D.elim
  · have : j = n := by omega
    subst this
    rw [h33, h107]
    refine ⟨rfl, by decide, ?_⟩
    simp only [Int32.reduceToInt]
    omega
theorem mq_least {M N : mm_M} (h : mq_J M N) : mq_2 mq_F (mf_22 M) (mf_287 N) (fun a M2 b N2 => a = b ∧ mq_J M2 N2) := by
  have jN := mq_J_0 (v := 0) h
  obtain ⟨t1, t2, t3, t4⟩ := h.1
  unfold mf_22 mf_287
  rw [← t1]
  by_cases c : 300 < M.1 1 1
  · rw [if_pos c, if_pos c]
    exact mq_2_ret ⟨rfl, jN⟩
  · rw [if_neg c, if_neg c]
    rw [Int32.lt_iff_toInt_lt] at c
    simp only [Int32.reduceToInt] at c
    obtain ⟨n, hn⟩ : ∃ n : Nat, (M.1 1 1).toInt = n := ⟨(M.1 1 1).toInt.toNat, by omega⟩
    have nn : (M.1 1 1).toNatClampNeg = n := by rw [mq_cl]; omega
    have hmin : mm_min (M.1 1 1) 300 = M.1 1 1 := Int32.toInt_inj.mp (by rw [mq_min]; simp only [Int32.reduceToInt]; split <;> omega)
    have hin : mm_in (M.1 1 1) 301 = true := mq_inr (by omega) (by omega)
    unfold mf_97
    rw [hmin, if_pos hin, nn]
    obtain ⟨u, M1, x1, x2, x3⟩ := mq_fill (M := M) (q := 34) (n := 301) (v := 0) (by decide)
    obtain ⟨r, y1, y2⟩ := mq_82 (M := M1) (x := 256) (s := 256) rfl
    have r7 : r = 7 := Int32.toInt_inj.mp (by rw [y2]; rfl)
    subst r7
    rw [x1, mq_Bs, y1, mq_Bs, if_pos hin]
    have D := mq_lall (M := mm_pi M1 33 n 7) (N := mm_pi (mm_pi N 84 0 0) 107 n 7) (T := M.1 2) (x := M.1 1 1 - 1) (n := n) (by rw [mi_sub]; simp only [Int32.reduceToInt]; omega) (by omega) (by
        rw [mq_pn (by decide), mq_pj (by decide), ← t1]; exact hn) (fun j hj => by
        obtain ⟨a1, a2, a3⟩ := t4 j (by omega)
        refine ⟨by rw [mq_pn (by decide), (x3 2 j rfl).1], by rw [mq_pn (by decide), mq_pn (by decide), ← a1], a2⟩) mq_ps mq_ps (fun d hd => by rw [mq_pn (by decide)]; exact x2 d (by omega))
    obtain ⟨c2, N3, z1, D⟩ := D
    rcases D with ⟨u3, M3, z2, z3, z4, z5⟩ | ⟨_, _, D⟩
    · rw [z1, z2, mq_Bs, mq_Bs]
      unfold mf_97_j220 mf_287_j198
      rw [if_pos (by decide), if_pos (by decide)]
      have e0 : (0 : Int32).toNatClampNeg = 0 := rfl
      rw [e0, z3, mq_Bs]
      refine mq_2_ret ⟨rfl, ?_⟩
      have kM : mq_kp [(33, none), (34, none)] M M3 := mq_kp_trans (mq_kp_pi (mq_kp_sub x3 rfl) rfl) z4
      have kN : mq_kp [(107, none)] (mm_pi N 84 0 0) N3 := mq_kp_trans (mq_kp_pi mq_kp_refl rfl) z5
      exact mq_J_kp jN kM kN rfl rfl
    · exact D.elim
