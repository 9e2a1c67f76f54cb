/-! TURNINGS: the reference's merging -/
/-- by two numbers, alike ones by where they begin -/
def mt_Q (r : Nat → Int) (n far a b : Nat) : Prop := (r a < r b ∨ (r a = r b ∧ r ((a + far) % n) < r ((b + far) % n))) ∨ ((r a = r b ∧ r ((a + far) % n) = r ((b + far) % n)) ∧ a < b)
theorem mt_Q_tr {r : Nat → Int} {n far a b c : Nat} (h : mt_Q r n far a b) (g : mt_Q r n far b c) : mt_Q r n far a c := by
  unfold mt_Q at h g ⊢
  omega
theorem mt_Q_as {r : Nat → Int} {n far a b : Nat} (h : mt_Q r n far a b) (g : mt_Q r n far b a) : False := by
  unfold mt_Q at h g
  omega
/-- the numbers of [a, b), in order -/
def mt_B (T : Nat → Nat → Prop) (o : Nat → Nat) (a b : Nat) : Prop := (∀ i, a ≤ i → i < b → a ≤ o i ∧ o i < b) ∧ (∀ x, a ≤ x → x < b → ∃ i, a ≤ i ∧ i < b ∧ o i = x) ∧ ∀ i j, a ≤ i → i < j → j < b → T (o i) (o j)
theorem mt_270 {N : mm_M} {x y w z : Int32} {n far a b : Nat} {r : Nat → Int} (hx : x.toInt = a) (hy : y.toInt = b) (hw : w.toInt = far) (hz : z.toInt = n) (ha : a < n) (hb : b < n) (hf : far ≤ n) (hn : n ≤ 12600) (hr : ∀ i, i < n → (N.1 103 i).toInt = r i ∧ -100000 ≤ r i ∧ r i ≤ 100000) : ∃ c, mf_270 x y w z N = some (.inl c, N) ∧ c.toInt = (if r a - r b = 0 then r ((a + far) % n) - r ((b + far) % n) else r a - r b) := by
  have n0 : 0 < n := by omega
  have na : x.toNatClampNeg = a := by rw [mq_cl]; omega
  have nb : y.toNatClampNeg = b := by rw [mq_cl]; omega
  have l1 := Nat.mod_lt (a + far) n0
  have l2 := Nat.mod_lt (b + far) n0
  have e1 : (x + w).toInt = ((a + far : Nat) : Int) := by rw [mi_add]; omega
  have e2 : (y + w).toInt = ((b + far : Nat) : Int) := by rw [mi_add]; omega
  have m1 : (mm_rem (x + w) z).toInt = (((a + far) % n : Nat) : Int) := by rw [mi_rem (by omega) (by omega), e1, hz]; rfl
  have m2 : (mm_rem (y + w) z).toInt = (((b + far) % n : Nat) : Int) := by rw [mi_rem (by omega) (by omega), e2, hz]; rfl
  have np : (mm_rem (x + w) z).toNatClampNeg = (a + far) % n := by rw [mq_cl]; omega
  have nq : (mm_rem (y + w) z).toNatClampNeg = (b + far) % n := by rw [mq_cl]; omega
  have z0 : ¬ z = 0 := fun q => by rw [q] at hz; simp only [Int32.reduceToInt] at hz; omega
  obtain ⟨ra, ra1, ra2⟩ := hr a ha
  obtain ⟨rb, rb1, rb2⟩ := hr b hb
  obtain ⟨rp, rp1, rp2⟩ := hr _ l1
  obtain ⟨rq, rq1, rq2⟩ := hr _ l2
  have d1 : (N.1 103 a - N.1 103 b).toInt = r a - r b := by rw [mi_sub, ra, rb]; omega
  have d2 : (N.1 103 ((a + far) % n) - N.1 103 ((b + far) % n)).toInt = r ((a + far) % n) - r ((b + far) % n) := by rw [mi_sub, rp, rq]; omega
  unfold mf_270
  rw [if_pos (mq_inr (by omega) (by omega)), if_pos (mq_inr (by omega) (by omega)), na, nb]
  by_cases c : N.1 103 a - N.1 103 b = 0
  · rw [if_pos c, if_pos z0, if_pos (mq_inr (by omega) (by omega)), if_pos z0, if_pos (mq_inr (by omega) (by omega)), np, nq]
    rw [c] at d1
    simp only [Int32.reduceToInt] at d1
    exact ⟨_, rfl, by rw [if_pos d1.symm]; exact d2⟩
  · rw [if_neg c]
    have : r a - r b ≠ 0 := fun q => c (Int32.toInt_inj.mp (by rw [d1, q]; rfl))
    exact ⟨_, rfl, by rw [if_neg this]; exact d1⟩
/-- two rows become one -/
theorem mt_272 {N : mm_M} {va vb vc vf vn : Int32} {n far a b c : Nat} {r : Nat → Int} {t : Nat → Nat} (ha : va.toInt = a) (hb : vb.toInt = b) (hc : vc.toInt = c) (hf : vf.toInt = far) (hn : vn.toInt = n) (ab : a ≤ b) (bc : b ≤ c) (cn : c ≤ n) (hf1 : far ≤ n) (hn1 : n ≤ 12600) (hr : ∀ i, i < n → (N.1 103 i).toInt = r i ∧ -100000 ≤ r i ∧ r i ≤ 100000) (ht : ∀ i, i < n → (N.1 105 i).toInt = t i) (h1 : mt_B (mt_Q r n far) t a b) (h2 : mt_B (mt_Q r n far) t b c) :
    mq_1 (mf_272 va vb vc vf vn N) (fun _ N2 => mt_B (mt_Q r n far) (fun i => (N2.1 106 i).toInt.toNat) a c ∧ (∀ i, a ≤ i → i < c → 0 ≤ (N2.1 106 i).toInt) ∧ (∀ i, (i < a ∨ c ≤ i) → N2.1 106 i = N.1 106 i) ∧ mq_kp [(106, none)] N N2) := by
  unfold mf_272
  refine mq_1_B (P := fun _ N2 => mt_B (mt_Q r n far) (fun i => (N2.1 106 i).toInt.toNat) a c ∧ (∀ i, a ≤ i → i < c → 0 ≤ (N2.1 106 i).toInt) ∧ (∀ i, (i < a ∨ c ≤ i) → N2.1 106 i = N.1 106 i) ∧ mq_kp [(106, none)] N N2) ?_ (fun _ _ q => mq_1_ret q)
  unfold mf_272_L9
  refine mq_1_L (I := fun (s : Int32 × Int32 × Int32) N2 => ∃ i j k : Nat, s.1.toInt = i ∧ s.2.1.toInt = j ∧ s.2.2.toInt = k ∧ a ≤ i ∧ i ≤ b ∧ b ≤ j ∧ j ≤ c ∧ k + b = i + j ∧
      (∀ p, a ≤ p → p < k → ∃ q, ((a ≤ q ∧ q < i) ∨ (b ≤ q ∧ q < j)) ∧ (N2.1 106 p).toInt = t q) ∧ (∀ q, ((a ≤ q ∧ q < i) ∨ (b ≤ q ∧ q < j)) → ∃ p, a ≤ p ∧ p < k ∧ (N2.1 106 p).toInt = t q) ∧
      (∀ p p2, a ≤ p → p < p2 → p2 < k → mt_Q r n far (N2.1 106 p).toInt.toNat (N2.1 106 p2).toInt.toNat) ∧ (∀ p q, a ≤ p → p < k → ((i ≤ q ∧ q < b) ∨ (j ≤ q ∧ q < c)) → mt_Q r n far (N2.1 106 p).toInt.toNat (t q)) ∧
      (∀ p, (p < a ∨ c ≤ p) → N2.1 106 p = N.1 106 p) ∧ mq_kp [(106, none)] N N2) (m := fun s _ => ((c : Int) - s.2.2.toInt).toNat) ?_ ⟨a, b, a, ha, hb, ha, Nat.le_refl _, ab, Nat.le_refl _, bc, rfl, fun p p1 p2 => by omega, fun q hq => by omega, fun p p2 x y z => by omega, fun p q x y => by omega, fun _ _ => rfl, mq_kp_refl⟩
  rintro ⟨xi, xj, xk⟩ N2 ⟨i, j, k, hi, hj, hk, i0, i1, j0, j1, kk, g1, g2, g3, g4, g5, hkp⟩
  try dsimp only at hi hj hk ⊢
  unfold mf_272_b9
  by_cases c1 : xk < vc
  · rw [if_pos c1]
    rw [Int32.lt_iff_toInt_lt] at c1
    have nk : xk.toNatClampNeg = k := by rw [mq_cl]; omega
    have ek : (xk + 1).toInt = ((k + 1 : Nat) : Int) := by rw [mi_add]; simp only [Int32.reduceToInt]; omega
    -- one is taken: x = t q0, in order before all that are left
    have put : ∀ (q0 i' j' : Nat) (y xi' xj' : Int32), y.toInt = t q0 → xi'.toInt = i' → xj'.toInt = j' → i ≤ i' → j ≤ j' → i' ≤ b → j' ≤ c → i' + j' = i + j + 1 → (∀ q, ((a ≤ q ∧ q < i') ∨ (b ≤ q ∧ q < j')) ↔ (((a ≤ q ∧ q < i) ∨ (b ≤ q ∧ q < j)) ∨ q = q0)) → ((i ≤ q0 ∧ q0 < b) ∨ (j ≤ q0 ∧ q0 < c)) → (∀ q, ((i' ≤ q ∧ q < b) ∨ (j' ≤ q ∧ q < c)) → ((i ≤ q ∧ q < b) ∨ (j ≤ q ∧ q < c)) ∧ mt_Q r n far (t q0) (t q)) →
        mq_1 (some (.inl (.inl (xi', xj', xk + 1)), (mm_pi N2 106 k y)) : mm_O ((Int32 × Int32 × Int32) ⊕ Unit)) (fun rr N3 => (∃ s2, rr = .inl s2 ∧ (∃ i j k : Nat, s2.1.toInt = i ∧ s2.2.1.toInt = j ∧ s2.2.2.toInt = k ∧ a ≤ i ∧ i ≤ b ∧ b ≤ j ∧ j ≤ c ∧ k + b = i + j ∧
      (∀ p, a ≤ p → p < k → ∃ q, ((a ≤ q ∧ q < i) ∨ (b ≤ q ∧ q < j)) ∧ (N3.1 106 p).toInt = t q) ∧ (∀ q, ((a ≤ q ∧ q < i) ∨ (b ≤ q ∧ q < j)) → ∃ p, a ≤ p ∧ p < k ∧ (N3.1 106 p).toInt = t q) ∧
      (∀ p p2, a ≤ p → p < p2 → p2 < k → mt_Q r n far (N3.1 106 p).toInt.toNat (N3.1 106 p2).toInt.toNat) ∧ (∀ p q, a ≤ p → p < k → ((i ≤ q ∧ q < b) ∨ (j ≤ q ∧ q < c)) → mt_Q r n far (N3.1 106 p).toInt.toNat (t q)) ∧
      (∀ p, (p < a ∨ c ≤ p) → N3.1 106 p = N.1 106 p) ∧ mq_kp [(106, none)] N N3) ∧ ((c : Int) - s2.2.2.toInt).toNat < ((c : Int) - xk.toInt).toNat) ∨ (∃ u, rr = .inr u ∧ mt_B (mt_Q r n far) (fun i => (N3.1 106 i).toInt.toNat) a c ∧ (∀ i, a ≤ i → i < c → 0 ≤ (N3.1 106 i).toInt) ∧ (∀ i, (i < a ∨ c ≤ i) → N3.1 106 i = N.1 106 i) ∧ mq_kp [(106, none)] N N3)) := by
      intro q0 i' j' y xi' xj' hy hi' hj' ii jj ib jc sum hq hq0 hrest
      have y2 : y.toInt.toNat = t q0 := by omega
      refine mq_1_ret (.inl ⟨_, rfl, ⟨i', j', k + 1, hi', hj', ek, by omega, ib, by omega, jc, by omega, fun p p1 p2 => ?_, fun q hqq => ?_, fun p p2 p1 pp p3 => ?_, fun p q p1 p2 hqq => ?_, fun p hp => ?_, mq_kp_pi hkp rfl⟩, by dsimp only; omega⟩)
      · by_cases z : p = k
        · rw [z, mq_ps]
          exact ⟨q0, (hq q0).mpr (.inr rfl), hy⟩
        · rw [mq_pj z]
          obtain ⟨q, w1, w2⟩ := g1 p p1 (by omega)
          exact ⟨q, (hq q).mpr (.inl w1), w2⟩
      · rcases (hq q).mp hqq with w | w
        · obtain ⟨p, w1, w2, w3⟩ := g2 q w
          exact ⟨p, w1, by omega, by rw [mq_pj (by omega)]; exact w3⟩
        · exact ⟨k, by omega, by omega, by rw [mq_ps, w]; exact hy⟩
      · by_cases z : p2 = k
        · rw [z, mq_ps, mq_pj (by omega), y2]
          exact g4 p q0 p1 (by omega) hq0
        · rw [mq_pj z, mq_pj (by omega)]
          exact g3 p p2 p1 pp (by omega)
      · obtain ⟨w1, w2⟩ := hrest q hqq
        by_cases z : p = k
        · rw [z, mq_ps, y2]; exact w2
        · rw [mq_pj z]
          exact g4 p q p1 (by omega) w1
      · rw [mq_pj (by omega)]
        exact g5 p hp
    -- from the first row
    have first : i < b → (∀ q, j ≤ q → q < c → mt_Q r n far (t i) (t q)) → mq_1 (mf_272_j57 vb vc vf vn xi xj xk 1 N2) (fun rr N3 => (∃ s2, rr = .inl s2 ∧ (∃ i j k : Nat, s2.1.toInt = i ∧ s2.2.1.toInt = j ∧ s2.2.2.toInt = k ∧ a ≤ i ∧ i ≤ b ∧ b ≤ j ∧ j ≤ c ∧ k + b = i + j ∧
      (∀ p, a ≤ p → p < k → ∃ q, ((a ≤ q ∧ q < i) ∨ (b ≤ q ∧ q < j)) ∧ (N3.1 106 p).toInt = t q) ∧ (∀ q, ((a ≤ q ∧ q < i) ∨ (b ≤ q ∧ q < j)) → ∃ p, a ≤ p ∧ p < k ∧ (N3.1 106 p).toInt = t q) ∧
      (∀ p p2, a ≤ p → p < p2 → p2 < k → mt_Q r n far (N3.1 106 p).toInt.toNat (N3.1 106 p2).toInt.toNat) ∧ (∀ p q, a ≤ p → p < k → ((i ≤ q ∧ q < b) ∨ (j ≤ q ∧ q < c)) → mt_Q r n far (N3.1 106 p).toInt.toNat (t q)) ∧
      (∀ p, (p < a ∨ c ≤ p) → N3.1 106 p = N.1 106 p) ∧ mq_kp [(106, none)] N N3) ∧ ((c : Int) - s2.2.2.toInt).toNat < ((c : Int) - xk.toInt).toNat) ∨ (∃ u, rr = .inr u ∧ mt_B (mt_Q r n far) (fun i => (N3.1 106 i).toInt.toNat) a c ∧ (∀ i, a ≤ i → i < c → 0 ≤ (N3.1 106 i).toInt) ∧ (∀ i, (i < a ∨ c ≤ i) → N3.1 106 i = N.1 106 i) ∧ mq_kp [(106, none)] N N3)) := by
      intro ib hall
      have ni : xi.toNatClampNeg = i := by rw [mq_cl]; omega
      have ei : (xi + 1).toInt = ((i + 1 : Nat) : Int) := by rw [mi_add]; simp only [Int32.reduceToInt]; omega
      unfold mf_272_j57 mf_272_j87 mf_272_j100
      rw [if_neg (by decide), if_pos (mq_inr (by omega) (by omega)), ni, (hkp 105 i rfl).1, if_pos (mq_inr (by omega) (by omega)), if_neg (by decide), if_neg (by decide), nk, mi_z]
      refine put i (i + 1) j _ _ _ (ht i (by omega)) ei hj (by omega) (Nat.le_refl _) (by omega) j1 (by omega) (fun q => by omega) (.inl ⟨Nat.le_refl _, ib⟩) (fun q hq => ⟨by omega, ?_⟩)
      rcases hq with ⟨w1, w2⟩ | ⟨w1, w2⟩
      · exact h1.2.2 i q i0 (by omega) w2
      · exact hall q w1 w2
    -- from the second
    have second : j < c → (∀ q, i ≤ q → q < b → mt_Q r n far (t j) (t q)) → mq_1 (mf_272_j56 vb vc vf vn xi xj xk N2) (fun rr N3 => (∃ s2, rr = .inl s2 ∧ (∃ i j k : Nat, s2.1.toInt = i ∧ s2.2.1.toInt = j ∧ s2.2.2.toInt = k ∧ a ≤ i ∧ i ≤ b ∧ b ≤ j ∧ j ≤ c ∧ k + b = i + j ∧
      (∀ p, a ≤ p → p < k → ∃ q, ((a ≤ q ∧ q < i) ∨ (b ≤ q ∧ q < j)) ∧ (N3.1 106 p).toInt = t q) ∧ (∀ q, ((a ≤ q ∧ q < i) ∨ (b ≤ q ∧ q < j)) → ∃ p, a ≤ p ∧ p < k ∧ (N3.1 106 p).toInt = t q) ∧
      (∀ p p2, a ≤ p → p < p2 → p2 < k → mt_Q r n far (N3.1 106 p).toInt.toNat (N3.1 106 p2).toInt.toNat) ∧ (∀ p q, a ≤ p → p < k → ((i ≤ q ∧ q < b) ∨ (j ≤ q ∧ q < c)) → mt_Q r n far (N3.1 106 p).toInt.toNat (t q)) ∧
      (∀ p, (p < a ∨ c ≤ p) → N3.1 106 p = N.1 106 p) ∧ mq_kp [(106, none)] N N3) ∧ ((c : Int) - s2.2.2.toInt).toNat < ((c : Int) - xk.toInt).toNat) ∨ (∃ u, rr = .inr u ∧ mt_B (mt_Q r n far) (fun i => (N3.1 106 i).toInt.toNat) a c ∧ (∀ i, a ≤ i → i < c → 0 ≤ (N3.1 106 i).toInt) ∧ (∀ i, (i < a ∨ c ≤ i) → N3.1 106 i = N.1 106 i) ∧ mq_kp [(106, none)] N N3)) := by
      intro jc hall
      have nj : xj.toNatClampNeg = j := by rw [mq_cl]; omega
      have ej : (xj + 1).toInt = ((j + 1 : Nat) : Int) := by rw [mi_add]; simp only [Int32.reduceToInt]; omega
      unfold mf_272_j56 mf_272_j57 mf_272_j87 mf_272_j100
      rw [if_pos rfl, if_pos (mq_inr (by omega) (by omega)), nj, (hkp 105 j rfl).1, if_pos (mq_inr (by omega) (by omega)), if_pos rfl, if_pos rfl, nk, mi_z]
      refine put j i (j + 1) _ _ _ (ht j (by omega)) hi ej (Nat.le_refl _) (by omega) i1 (by omega) (by omega) (fun q => by omega) (.inr ⟨Nat.le_refl _, jc⟩) (fun q hq => ⟨by omega, ?_⟩)
      rcases hq with ⟨w1, w2⟩ | ⟨w1, w2⟩
      · exact hall q w1 w2
      · exact h2.2.2 j q j0 (by omega) w2
    by_cases c2 : xj = vc
    · rw [if_pos c2]
      have : j = c := by rw [c2] at hj; omega
      exact first (by omega) (fun q w1 w2 => by omega)
    · rw [if_neg c2]
      have jc : j < c := by
        have : j ≠ c := fun q => c2 (Int32.toInt_inj.mp (by omega))
        omega
      by_cases c3 : xi < vb
      · rw [if_pos c3]
        rw [Int32.lt_iff_toInt_lt] at c3
        have ni : xi.toNatClampNeg = i := by rw [mq_cl]; omega
        have nj : xj.toNatClampNeg = j := by rw [mq_cl]; omega
        rw [if_pos (mq_inr (by omega) (by omega)), if_pos (mq_inr (by omega) (by omega)), ni, nj, (hkp 105 i rfl).1, (hkp 105 j rfl).1]
        have ti := h1.1 i i0 (by omega)
        have tj := h2.1 j j0 jc
        obtain ⟨cc, x1, x2⟩ := mt_270 (N := N2) (r := r) (ht i (by omega)) (ht j (by omega)) hf hn (by omega) (by omega) hf1 hn1 (fun m hm => by rw [(hkp 103 m rfl).1]; exact hr m hm)
        rw [x1, mq_Bs]
        by_cases c4 : 0 < cc
        · rw [if_pos c4]
          rw [Int32.lt_iff_toInt_lt, x2] at c4
          simp only [Int32.reduceToInt] at c4
          have hQ : mt_Q r n far (t j) (t i) := by
            unfold mt_Q
            by_cases z : r (t i) - r (t j) = 0
            · rw [if_pos z] at c4; omega
            · rw [if_neg z] at c4; omega
          refine second jc (fun q w1 w2 => ?_)
          by_cases z : q = i
          · rw [z]; exact hQ
          · exact mt_Q_tr hQ (h1.2.2 i q i0 (by omega) w2)
        · rw [if_neg c4]
          rw [Int32.lt_iff_toInt_lt, x2] at c4
          simp only [Int32.reduceToInt] at c4
          have hQ : mt_Q r n far (t i) (t j) := by
            unfold mt_Q
            by_cases z : r (t i) - r (t j) = 0
            · rw [if_pos z] at c4; omega
            · rw [if_neg z] at c4; omega
          refine first (by omega) (fun q w1 w2 => ?_)
          by_cases z : q = j
          · rw [z]; exact hQ
          · exact mt_Q_tr hQ (h2.2.2 j q j0 (by omega) w2)
      · rw [if_neg c3]
        rw [Int32.lt_iff_toInt_lt] at c3
        exact second jc (fun q w1 w2 => by omega)
  · rw [if_neg c1]
    rw [Int32.lt_iff_toInt_lt] at c1
    have ei : i = b := by omega
    have ej : j = c := by omega
    have ekk : k = c := by omega
    subst ei ej ekk
    refine mq_1_ret (.inr ⟨_, rfl, ⟨fun p p1 p2 => ?_, fun x x1 x2 => ?_, fun p p2 p1 pp p3 => g3 p p2 p1 pp p3⟩, fun p p1 p2 => ?_, g5, hkp⟩)
    · obtain ⟨q, w1, w2⟩ := g1 p p1 p2
      try dsimp only
      rw [w2]
      rcases w1 with ⟨w1, w3⟩ | ⟨w1, w3⟩
      · have := h1.1 q w1 w3; omega
      · have := h2.1 q w1 w3; omega
    · by_cases z : x < i
      · obtain ⟨q, w1, w2, w3⟩ := h1.2.1 x x1 z
        obtain ⟨p, v1, v2, v3⟩ := g2 q (.inl ⟨w1, w2⟩)
        exact ⟨p, v1, v2, by dsimp only; rw [v3]; omega⟩
      · obtain ⟨q, w1, w2, w3⟩ := h2.2.1 x (by omega) x2
        obtain ⟨p, v1, v2, v3⟩ := g2 q (.inr ⟨w1, w2⟩)
        exact ⟨p, v1, v2, by dsimp only; rw [v3]; omega⟩
    · obtain ⟨q, w1, w2⟩ := g1 p p1 p2
      rw [w2]
      omega
