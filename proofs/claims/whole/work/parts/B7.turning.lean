/-! THE CALLS: turning -/
theorem mq_J_kp {M N M2 N2 : mm_M} {w w2 : List (Nat × Option Nat)} (h : mq_J M N) (k1 : mq_kp w M M2) (k2 : mq_kp w2 N N2) (h1 : w.all (fun e => decide (e.1 < 1) || decide (4 < e.1)) = true) (h2 : w2.all (fun e => (decide (e.1 < 84) || decide (86 < e.1) || (e.1 == 84 && (match e.2 with | some j => decide (13 ≤ j) | none => false))) && !(e.1 == 89) && !(e.1 == 101)) = true) : mq_J M2 N2 := by
  have w1 : ∀ p i, 1 ≤ p → p ≤ 4 → mq_ws w p i = false := by
    intro p i p1 p2
    rw [Bool.eq_false_iff]
    intro q
    simp only [mq_ws, List.any_eq_true, Bool.and_eq_true, beq_iff_eq] at q
    obtain ⟨e, he, e1, _⟩ := q
    have := List.all_eq_true.mp h1 e he
    simp only [Bool.or_eq_true, decide_eq_true_eq] at this
    omega
  have w3 : ∀ i, i < 13 → mq_ws w2 84 i = false := by
    intro i hi
    rw [Bool.eq_false_iff]
    intro q
    simp only [mq_ws, List.any_eq_true, Bool.and_eq_true, beq_iff_eq] at q
    obtain ⟨⟨e, o⟩, he, e1, e2⟩ := q
    have := List.all_eq_true.mp h2 _ he
    simp only at e1 e2
    subst e1
    cases o with
    | none => simp at this
    | some j => simp at this e2; omega
  have w4 : ∀ p i, (p = 85 ∨ p = 86 ∨ p = 89 ∨ p = 101) → mq_ws w2 p i = false := by
    intro p i hp
    rw [Bool.eq_false_iff]
    intro q
    simp only [mq_ws, List.any_eq_true, Bool.and_eq_true, beq_iff_eq] at q
    obtain ⟨⟨e, o⟩, he, e1, e2⟩ := q
    have := List.all_eq_true.mp h2 _ he
    simp only at e1 e2
    subst e1
    simp only [Bool.and_eq_true, Bool.or_eq_true, decide_eq_true_eq, Bool.not_eq_true', beq_eq_false_iff_ne, beq_iff_eq] at this
    omega
  obtain ⟨⟨t1, t2, t3, t4⟩, ⟨u1, u2, u3, u4⟩, ⟨v1, v2, v3, v4, v5, v6⟩, hR, c0, c1⟩ := h
  have M1 : ∀ p i, 1 ≤ p → p ≤ 4 → M2.1 p i = M.1 p i := fun p i a b => (k1 p i (w1 p i a b)).1
  have N84 : ∀ i, i < 13 → N2.1 84 i = N.1 84 i := fun i a => (k2 84 i (w3 i a)).1
  have NN : ∀ p i, (p = 85 ∨ p = 86 ∨ p = 89 ∨ p = 101) → N2.1 p i = N.1 p i := fun p i a => (k2 p i (w4 p i a)).1
  refine ⟨⟨?_, ?_, ?_, fun j hj => ?_⟩, ⟨?_, ?_, ?_, fun j hj => ?_⟩, ⟨?_, ?_, ?_, ?_, ?_, ?_⟩, fun i hi => ?_, ?_, ?_⟩
  · rw [M1 1 1 (by decide) (by decide), N84 2 (by decide)]; exact t1
  · rw [M1 1 1 (by decide) (by decide)]; exact t2
  · rw [M1 1 1 (by decide) (by decide)]; exact t3
  · rw [M1 1 1 (by decide) (by decide)] at hj
    rw [M1 2 j (by decide) (by decide), NN 85 j (.inl rfl)]; exact t4 j hj
  · rw [M1 3 1 (by decide) (by decide), N84 4 (by decide)]; exact u1
  · rw [M1 3 1 (by decide) (by decide)]; exact u2
  · rw [M1 3 1 (by decide) (by decide)]; exact u3
  · rw [M1 3 1 (by decide) (by decide)] at hj
    rw [M1 4 j (by decide) (by decide), NN 86 j (.inr (.inl rfl))]; exact u4 j hj
  · rw [M1 1 2 (by decide) (by decide), N84 5 (by decide)]; exact v1
  · rw [M1 3 2 (by decide) (by decide), N84 8 (by decide)]; exact v2
  · rw [M1 3 3 (by decide) (by decide), N84 9 (by decide)]; exact v3
  · rw [M1 3 4 (by decide) (by decide), N84 10 (by decide)]; exact v4
  · rw [M1 3 5 (by decide) (by decide), N84 11 (by decide)]; exact v5
  · rw [M1 3 6 (by decide) (by decide), N84 12 (by decide)]; exact v6
  · rw [NN 89 i (.inr (.inr (.inl rfl)))]; exact hR i hi
  · rw [NN 101 0 (.inr (.inr (.inr rfl)))]; exact c0
  · rw [NN 101 1 (.inr (.inr (.inr rfl)))]; exact c1
theorem mq_L40 {N : mm_M} {v : Int32} {n : Nat} (hn : (N.1 84 2).toInt = n) (hn1 : n ≤ 10000) : mq_1 (mf_274_L40 v 0 N) (fun _ N2 => (∀ i, i < n → N2.1 102 i = N.1 85 i) ∧ mq_kp [(102, none)] N N2) := by
  unfold mf_274_L40
  refine mq_1_L (I := fun (a : Int32) N2 => ∃ k : Nat, k ≤ n ∧ a.toInt = k ∧ (∀ i, i < k → N2.1 102 i = N.1 85 i) ∧ mq_kp [(102, none)] N N2) (m := fun (a : Int32) _ => ((n : Int) - a.toInt).toNat) ?_ ⟨0, by omega, rfl, fun j h => absurd h (Nat.not_lt_zero _), mq_kp_refl⟩
  rintro x N2 ⟨k, hk, hx, h1, hkp⟩
  unfold mf_274_b40
  rw [(hkp 84 2 rfl).1]
  by_cases c : x < N.1 84 2
  · rw [if_pos c]
    rw [Int32.lt_iff_toInt_lt] at c
    have e1 : (x + 1).toInt = ((k + 1 : Nat) : Int) := by rw [mi_add]; simp only [Int32.reduceToInt]; omega
    have nx : x.toNatClampNeg = k := by rw [mq_cl]; omega
    rw [if_pos (mq_inr (by omega) (by omega)), if_pos (mq_inr (by omega) (by omega)), nx, (hkp 85 k rfl).1]
    refine mq_1_ret (.inl ⟨_, rfl, ⟨k + 1, by omega, e1, fun i hi => ?_, mq_kp_pi hkp rfl⟩, by omega⟩)
    by_cases q : i = k
    · rw [q, mq_ps]
    · rw [mq_pj q]; exact h1 i (by omega)
  · rw [if_neg c]
    rw [Int32.lt_iff_toInt_lt] at c
    have : k = n := by omega
    subst this
    exact mq_1_ret (.inr ⟨_, rfl, h1, hkp⟩)
theorem mq_turning {M N : mm_M} {v : Int32} (h : mq_J M N) : mq_2 mq_F (mf_10 v M) (mf_274 v N) mq_C := by
  show mq_2 mq_F (mq_w (mf_24 v M) 2) _ _
  obtain ⟨t1, t2, t3, t4⟩ := h.1
  unfold mf_24 mf_274
  rw [← t1]
  by_cases c : v < 0
  · rw [if_pos c, if_pos c]; exact mq_ref h rfl rfl
  rw [if_neg c, if_neg c]
  by_cases d : v < M.1 1 1
  · rw [if_pos d, if_pos d]
    rw [Int32.lt_iff_toInt_lt] at c d
    simp only [Int32.reduceToInt] at c
    unfold mf_274_j18
    rw [mq_174_1, mq_Bs, if_neg (show ¬ (1 : Int32) = 0 from by decide)]
    have e2 : (mm_pi N 84 0 0).1 84 2 = M.1 1 1 := t1.symm
    rw [e2]
    by_cases e : 1000 < M.1 1 1
    · rw [if_pos e, if_pos e]
      exact mq_ok (M := M) (N := N) rfl rfl rfl (mq_J_0 (v := 0) h)
    · rw [if_neg e, if_neg e]
      obtain ⟨n, hn⟩ : ∃ n : Nat, (M.1 1 1).toInt = n := ⟨(M.1 1 1).toInt.toNat, by omega⟩
      obtain ⟨f, hf⟩ : ∃ f : Nat → Nat, ∀ i, i < n → (M.1 2 i).toInt = f i ∧ f i < 256 := ⟨fun i => (M.1 2 i).toInt.toNat, fun i hi => by have := t4 i (by omega); dsimp only; omega⟩
      obtain ⟨_, M2, x2, ⟨o, o1, o2⟩, k2⟩ := mq_1_K (mt_66 (M := M) (p := 2) (m := 10000) (v := M.1 1 1) (n := n) (f := f) (by omega) (by omega) (by decide) (by decide) (by omega) (by decide) hn hf) mk_66
      rw [x2, mq_Bs]
      obtain ⟨_, N2, y2, w2, l2⟩ := mq_L40 (N := mm_pi N 84 0 0) (v := v) (n := n) (by rw [e2]; exact hn) (by omega)
      rw [y2, mq_Bs]
      unfold mf_274_j66
      have e3 : N2.1 84 2 = M.1 1 1 := by rw [(l2 84 2 rfl).1]; exact e2
      rw [e3]
      obtain ⟨_, N3, y3, ⟨p, r, p1, p2, _⟩, l3⟩ := mq_1_K (mt_273 (N := N2) (vn := M.1 1 1) (n := n) (f := f) hn (by omega) (by omega) (fun i hi => by
        rw [w2 i hi]
        show (N.1 85 i).toInt = f i ∧ _
        rw [← (t4 i (by omega)).1]
        exact hf i hi)) mk_273
      rw [y3, mq_Bs]
      have eo := mt_S_u (fun a b => mt_T_as) o2 p2
      obtain ⟨k, hk⟩ : ∃ k : Nat, v.toInt = k := ⟨v.toInt.toNat, by omega⟩
      have nv : v.toNatClampNeg = k := by rw [mq_cl]; omega
      rw [if_pos (mq_inr (by omega) (by omega)), if_pos (mq_inr (by omega) (by omega)), nv]
      refine mq_ok (M := M) (N := N) (a := M2.1 8 k) rfl ?_ ?_ (mq_J_kp (mq_J_0 (v := 0) h) k2 (mq_kp_trans (l := [(102, none), (103, none), (104, none), (105, none), (106, none)]) (mq_kp_sub l2 rfl) (mq_kp_sub l3 rfl)) rfl rfl)
      · have : N3.1 105 k = M2.1 8 k := Int32.toInt_inj.mp (by rw [p1 k (by omega), o1 k (by omega), eo k (by omega)])
        rw [this]
      · rw [(l3 84 0 rfl).1, (l2 84 0 rfl).1]; rfl
  · rw [if_neg d, if_neg d]; exact mq_ref h rfl rfl
