/-! WRITING: WORDS -/
section WU
variable {t : Nat → Int32} {sz D : Nat} {A S P : Nat → Nat}
/-- the class goes down the tree -/
theorem mq_down {M : mm_M} {v1 v2 v3 : Int32} {k c l : Nat} (h : mq_WT t D A S P M) (hD : D ≤ 4096) (htr : mq_tre t sz D A S P) (hs : (M.1 1 1).toInt = sz) (hs1 : sz ≤ 10000) (ht : ∀ j, M.1 2 j = t j) (h1 : v1.toInt = ((k + l : Nat) : Int)) (h2 : v2.toInt = c) (hr : mq_rd t sz D A S k c l) (h3 : (k + l < sz ∧ ((v3 = 0 ∧ ∀ q, 258 ≤ q → q < D → P q = c → t (A q + (S q - 1)) ≠ t (k + l)) ∨ ∃ q : Nat, v3.toInt = q ∧ 258 ≤ q ∧ q < D ∧ P q = c ∧ t (A q + (S q - 1)) = t (k + l))) ∨ (k + l = sz ∧ v3 = 0)) :
    ∃ r : Int32 × Int32, mf_114_L80 (v1, v2, v3) M = some (.inl r, M) ∧ ∃ c l : Nat, r.1.toInt = ((k + l : Nat) : Int) ∧ r.2.toInt = c ∧ mq_rd t sz D A S k c l ∧ (k + l = sz ∨ ∀ q, 258 ≤ q → q < D → P q = c → t (A q + (S q - 1)) ≠ t (k + l)) := by
  apply mq_1_is
  unfold mf_114_L80
  refine mq_1_L (I := fun (s : Int32 × Int32 × Int32) M2 => M2 = M ∧ ∃ c l : Nat, s.1.toInt = ((k + l : Nat) : Int) ∧ s.2.1.toInt = c ∧ mq_rd t sz D A S k c l ∧ ((k + l < sz ∧ ((s.2.2 = 0 ∧ ∀ q, 258 ≤ q → q < D → P q = c → t (A q + (S q - 1)) ≠ t (k + l)) ∨ ∃ q : Nat, s.2.2.toInt = q ∧ 258 ≤ q ∧ q < D ∧ P q = c ∧ t (A q + (S q - 1)) = t (k + l))) ∨ (k + l = sz ∧ s.2.2 = 0))) (m := fun s _ => ((sz : Int) - s.1.toInt).toNat) ?_ ⟨rfl, c, l, h1, h2, hr, h3⟩
  rintro ⟨x1, x2, x3⟩ M2 ⟨rfl, c, l, h1, h2, hr, h3⟩
  dsimp only at h1 h2 h3 ⊢
  unfold mf_114_b80
  rcases h3 with ⟨kl, h3⟩ | ⟨kl, h3⟩
  · rw [if_pos (by rw [Int32.lt_iff_toInt_lt]; omega)]
    rcases h3 with ⟨h3, h4⟩ | ⟨q, q0, q1, q2, q3, q4⟩
    · rw [if_neg (by rw [h3]; decide)]
      exact mq_1_ret (.inr ⟨_, rfl, rfl, c, l, h1, h2, hr, .inr h4⟩)
    · rw [if_pos (by rw [Int32.lt_iff_toInt_lt]; simp only [Int32.reduceToInt]; omega)]
      have e1 : (x1 + 1).toInt = ((k + (l + 1) : Nat) : Int) := by rw [mi_add]; simp only [Int32.reduceToInt]; omega
      have hr2 := mq_rd_c htr hr kl q1 q2 q3 q4
      by_cases d : x1 + 1 < M2.1 1 1
      · rw [if_pos d]
        rw [Int32.lt_iff_toInt_lt] at d
        have n1 : (x1 + 1).toNatClampNeg = k + (l + 1) := by rw [mq_cl]; omega
        rw [if_pos (mq_inr (by omega) (by omega)), n1, ht]
        obtain ⟨r, er, hr3⟩ := mq_115 (v2 := t (k + (l + 1))) h hD q0 (by omega)
        rw [er, mq_Bs]
        exact mq_1_ret (.inl ⟨_, rfl, ⟨rfl, q, l + 1, e1, q0, hr2, .inl ⟨by omega, hr3⟩⟩, by dsimp only; omega⟩)
      · rw [if_neg d]
        rw [Int32.lt_iff_toInt_lt] at d
        exact mq_1_ret (.inl ⟨_, rfl, ⟨rfl, q, l + 1, e1, q0, hr2, .inr ⟨by omega, rfl⟩⟩, by dsimp only; omega⟩)
  · rw [if_neg (by rw [Int32.lt_iff_toInt_lt]; omega)]
    exact mq_1_ret (.inr ⟨_, rfl, rfl, c, l, h1, h2, hr, .inl kl⟩)
/-- the reference: does a word stand here -/
theorem mq_262 {N : mm_M} {v1 v2 v3 : Int32} {a s k : Nat} (h1 : v1.toInt = a) (h2 : v2.toInt = s) (h3 : v3.toInt = k) (hs : (N.1 84 2).toInt = sz) (hs1 : sz ≤ 10000) (ha : a + s ≤ sz) (hk : k ≤ sz) (s1 : 1 ≤ s) (ht : ∀ j, j < sz → N.1 85 j = t j) : ∃ r, mf_262 v1 v2 v3 N = some (.inl r, N) ∧ ((r = 1 ∧ k + s ≤ sz ∧ ∀ i, i < s → t (a + i) = t (k + i)) ∨ (r = 0 ∧ ¬ (k + s ≤ sz ∧ ∀ i, i < s → t (a + i) = t (k + i)))) := by
  have e1 : (v3 + v2).toInt = ((k + s : Nat) : Int) := by rw [mi_add]; omega
  unfold mf_262
  by_cases c : N.1 84 2 < v3 + v2
  · rw [if_pos c]
    rw [Int32.lt_iff_toInt_lt] at c
    have e2 : mf_262_L20 v1 v2 v3 (0, 0) N = mm_B (mf_262_b20 v1 v2 v3 0 0 N) (mm_nx (mm_L (fun s M => mf_262_b20 v1 v2 v3 s.1 s.2 M))) := mm_L_eq _ _ _
    rw [e2]
    unfold mf_262_b20
    rw [if_pos (by rw [Int32.lt_iff_toInt_lt]; simp only [Int32.reduceToInt]; omega), if_pos rfl]
    exact ⟨0, rfl, .inr ⟨rfl, fun q => by omega⟩⟩
  · rw [if_neg c]
    rw [Int32.lt_iff_toInt_lt] at c
    have L : mq_1 (mf_262_L20 v1 v2 v3 (1, 0) N) (fun r N2 => N2 = N ∧ ((r = 1 ∧ k + s ≤ sz ∧ ∀ i, i < s → t (a + i) = t (k + i)) ∨ (r = 0 ∧ ¬ (k + s ≤ sz ∧ ∀ i, i < s → t (a + i) = t (k + i))))) := by
      unfold mf_262_L20
      refine mq_1_L (I := fun (x : Int32 × Int32) N2 => N2 = N ∧ ∃ j : Nat, x.2.toInt = j ∧ j ≤ s ∧ ((x.1 = 1 ∧ ∀ i, i < j → t (a + i) = t (k + i)) ∨ (x.1 = 0 ∧ ¬ (k + s ≤ sz ∧ ∀ i, i < s → t (a + i) = t (k + i))))) (m := fun x _ => ((s : Int) - x.2.toInt).toNat) ?_ ⟨rfl, 0, rfl, Nat.zero_le _, .inl ⟨rfl, fun i hi => absurd hi (Nat.not_lt_zero _)⟩⟩
      rintro ⟨x, y⟩ N2 ⟨rfl, j, hj, js, hx⟩
      dsimp only at hj hx ⊢
      unfold mf_262_b20
      by_cases d : y < v2
      · rw [if_pos d]
        rw [Int32.lt_iff_toInt_lt] at d
        rcases hx with ⟨rfl, hx⟩ | ⟨rfl, hx⟩
        · rw [if_neg (by decide)]
          have a1 : (v1 + y).toInt = ((a + j : Nat) : Int) := by rw [mi_add]; omega
          have a2 : (v3 + y).toInt = ((k + j : Nat) : Int) := by rw [mi_add]; omega
          have n1 : (v1 + y).toNatClampNeg = a + j := by rw [mq_cl]; omega
          have n2 : (v3 + y).toNatClampNeg = k + j := by rw [mq_cl]; omega
          have e3 : (y + 1).toInt = ((j + 1 : Nat) : Int) := by rw [mi_add]; simp only [Int32.reduceToInt]; omega
          rw [if_pos (mq_inr (by omega) (by omega)), if_pos (mq_inr (by omega) (by omega)), n1, n2, ht _ (by omega), ht _ (by omega)]
          by_cases z : t (a + j) = t (k + j)
          · rw [if_pos z]
            refine mq_1_ret (.inl ⟨_, rfl, ⟨rfl, j + 1, e3, by omega, .inl ⟨rfl, fun i hi => ?_⟩⟩, by dsimp only; omega⟩)
            by_cases w : i = j
            · rw [w]; exact z
            · exact hx i (by omega)
          · rw [if_neg z]
            exact mq_1_ret (.inl ⟨_, rfl, ⟨rfl, j + 1, e3, by omega, .inr ⟨rfl, fun q => z (q.2 j (by omega))⟩⟩, by dsimp only; omega⟩)
        · rw [if_pos rfl]
          exact mq_1_ret (.inr ⟨_, rfl, rfl, .inr ⟨rfl, hx⟩⟩)
      · rw [if_neg d]
        rw [Int32.lt_iff_toInt_lt] at d
        have : j = s := by omega
        subst this
        refine mq_1_ret (.inr ⟨_, rfl, rfl, ?_⟩)
        rcases hx with ⟨rfl, hx⟩ | hx
        · exact .inl ⟨rfl, by omega, hx⟩
        · exact .inr hx
    obtain ⟨r, er, hr⟩ := mq_1_is L
    rw [er, mq_Bs]
    refine ⟨r, ?_, hr⟩
    rcases hr with ⟨rfl, _⟩ | ⟨rfl, _⟩
    · rfl
    · rfl
/-- the reference: the longest word that stands here -/
theorem mq_scan {N : mm_M} {v2 v3 v4 v5 v8 c0 : Int32} {k : Nat} (htr : mq_tre t sz D A S P) (h5 : v5.toInt = D) (hD : 258 ≤ D) (hD2 : D ≤ 4096) (h8 : v8.toInt = k) (hk : k < sz) (hs : (N.1 84 2).toInt = sz) (hs1 : sz ≤ 10000) (ht : ∀ j, j < sz → N.1 85 j = t j) (hA : ∀ q, 258 ≤ q → q < D → (N.1 91 q).toInt = A q ∧ (N.1 92 q).toInt = S q) (hc : c0 = t k) (hc0 : 0 ≤ (t k).toInt) (hc1 : (t k).toInt < 256) :
    ∃ r : Int32 × Int32, mf_261_L94 v2 v3 v4 v5 v8 (c0, 1, 258) N = some (.inl r, N) ∧ ∃ c l : Nat, r.1.toInt = c ∧ r.2.toInt = l ∧ mq_rd t sz D A S k c l ∧ ∀ r, 258 ≤ r → r < D → mq_sd t sz A S k r → S r ≤ l := by
  apply mq_1_is
  unfold mf_261_L94
  refine mq_1_L (I := fun (s : Int32 × Int32 × Int32) N2 => N2 = N ∧ ∃ c l q : Nat, s.1.toInt = c ∧ s.2.1.toInt = l ∧ s.2.2.toInt = q ∧ 258 ≤ q ∧ q ≤ D ∧ mq_rd t sz D A S k c l ∧ ∀ r, 258 ≤ r → r < q → mq_sd t sz A S k r → S r ≤ l) (m := fun s _ => ((D : Int) - s.2.2.toInt).toNat) ?_ ⟨rfl, (t k).toInt.toNat, 1, 258, by dsimp only; rw [hc]; omega, rfl, rfl, Nat.le_refl _, hD, ⟨by omega, .inl ⟨by omega, rfl, by omega⟩⟩, fun r r0 r1 => by omega⟩
  rintro ⟨x1, x2, x3⟩ N2 ⟨rfl, c, l, q, e1, e2, e3, q0, q1, hr, hm⟩
  dsimp only at e1 e2 e3 ⊢
  unfold mf_261_b94
  by_cases d : x3 < v5
  · rw [if_pos d]
    rw [Int32.lt_iff_toInt_lt] at d
    have hin : mm_in x3 4096 = true := mq_inr (by omega) (by omega)
    have nq : x3.toNatClampNeg = q := by rw [mq_cl]; omega
    have e4 : (x3 + 1).toInt = ((q + 1 : Nat) : Int) := by rw [mi_add]; simp only [Int32.reduceToInt]; omega
    obtain ⟨a1, a2⟩ := hA q q0 (by omega)
    obtain ⟨b1, b2, _⟩ := htr q q0 (by omega)
    rw [if_pos hin, nq]
    have go : (mq_sd t sz A S k q → S q ≤ l) → mq_1 (some (.inl (.inl (x1, x2, (x3 + (1 : Int32)))), N2) : mm_O ((Int32 × Int32 × Int32) ⊕ (Int32 × Int32))) (fun r N => (∃ s2, r = .inl s2 ∧ (N = N2 ∧ ∃ c l q : Nat, s2.1.toInt = c ∧ s2.2.1.toInt = l ∧ s2.2.2.toInt = q ∧ 258 ≤ q ∧ q ≤ D ∧ mq_rd t sz D A S k c l ∧ ∀ r, 258 ≤ r → r < q → mq_sd t sz A S k r → S r ≤ l) ∧ ((D : Int) - s2.2.2.toInt).toNat < ((D : Int) - x3.toInt).toNat) ∨ (∃ x, r = .inr x ∧ N = N2 ∧ ∃ c l : Nat, x.1.toInt = c ∧ x.2.toInt = l ∧ mq_rd t sz D A S k c l ∧ ∀ r, 258 ≤ r → r < D → mq_sd t sz A S k r → S r ≤ l)) := by
      intro hq
      refine mq_1_ret (.inl ⟨_, rfl, ⟨rfl, c, l, q + 1, e1, e2, e4, by omega, by omega, hr, fun r r0 r1 hs => ?_⟩, by dsimp only; omega⟩)
      by_cases z : r = q
      · subst z; exact hq hs
      · exact hm r r0 (by omega) hs
    by_cases z : x2 < N2.1 92 q
    · rw [if_pos z, if_pos hin, if_pos hin]
      rw [Int32.lt_iff_toInt_lt] at z
      obtain ⟨r, er, hr2⟩ := mq_262 (t := t) (v1 := N2.1 91 q) (v2 := N2.1 92 q) a1 a2 h8 hs hs1 b2 (by omega) (by omega) ht
      rw [er, mq_Bs]
      rcases hr2 with ⟨rfl, y1, y2⟩ | ⟨rfl, y1⟩
      · rw [if_neg (by decide), if_pos hin]
        refine mq_1_ret (.inl ⟨_, rfl, ⟨rfl, q, S q, q + 1, e3, a2, e4, by omega, by omega, ⟨y1, .inr ⟨q0, by omega, rfl, y2⟩⟩, fun r r0 r1 hs => ?_⟩, by dsimp only; omega⟩)
        by_cases w : r = q
        · rw [w]; exact Nat.le_refl _
        · have := hm r r0 (by omega) hs
          omega
      · rw [if_pos rfl]
        exact go (fun hs => absurd hs y1)
    · rw [if_neg z]
      rw [Int32.lt_iff_toInt_lt] at z
      exact go (fun _ => by omega)
  · rw [if_neg d]
    rw [Int32.lt_iff_toInt_lt] at d
    have : q = D := by omega
    subst this
    exact mq_1_ret (.inr ⟨_, rfl, rfl, c, l, e1, e2, hr, hm⟩)
end WU
/-- the tree grows -/
theorem mq_116 {t : Nat → Int32} {sz D : Nat} {A S P : Nat → Nat} {M : mm_M} {v1 v2 : Int32} {k c l : Nat} (h : mq_WT t D A S P M) (hD0 : 258 ≤ D) (hD : D < 4096) (hn : (M.1 35 10).toInt = D) (h1 : v1.toInt = c) (hr : mq_rd t sz D A S k c l) (h2 : v2 = t (k + l)) : ∃ M2, mf_116 v1 v2 M = some (.inl (), M2) ∧ mq_WT t (D + 1) (mq_up A D k) (mq_up S D (l + 1)) (mq_up P D c) M2 ∧ mq_kp mw_116 M M2 := by
  have hc : c < 4096 := by
    rcases hr.2 with ⟨y1, _⟩ | ⟨_, y2, _⟩
    · omega
    · omega
  have hcD : c ≠ D := by
    rcases hr.2 with ⟨y1, _⟩ | ⟨_, y2, _⟩
    · omega
    · omega
  have i1 : mm_in (M.1 35 10) 4096 = true := mq_inr (by omega) (by omega)
  have i2 : mm_in v1 4096 = true := mq_inr (by omega) (by omega)
  have n1 : (M.1 35 10).toNatClampNeg = D := by rw [mq_cl]; omega
  have n2 : v1.toNatClampNeg = c := by rw [mq_cl]; omega
  have e : mf_116 v1 v2 M = some (.inl (), (mm_pi (mm_pi (mm_pi M 40 D v2) 39 D (M.1 38 c)) 38 c (M.1 35 10))) := by
    unfold mf_116
    rw [if_pos i1, if_pos i2, if_pos i1, if_pos i2, n1, n2]
  refine ⟨_, e, ⟨fun p hp => ?_, fun q q0 q1 => ?_⟩, mk_116 _ e⟩
  · show mq_wl (mq_up P D c) (D + 1) p ((mm_pi (mm_pi (mm_pi M 40 D v2) 39 D (M.1 38 c)) 38 c (M.1 35 10)).1 38 p)
    by_cases z : p = c
    · subst z
      rw [mq_ps]
      exact .inr ⟨D, hn, hD0, by omega, mq_up_s, fun r r0 r1 => by omega⟩
    · rw [mq_pj z]
      show mq_wl (mq_up P D c) (D + 1) p (M.1 38 p)
      rcases h.1 p hp with ⟨g1, g2⟩ | ⟨q, g1, g2, g3, g4, g5⟩
      · refine .inl ⟨g1, fun r r0 r1 => ?_⟩
        by_cases w : r = D
        · rw [w, mq_up_s]; exact fun y => z y.symm
        · rw [mq_up_n w]; exact g2 r r0 (by omega)
      · refine .inr ⟨q, g1, g2, by omega, by rw [mq_up_n (by omega)]; exact g4, fun r r0 r1 => ?_⟩
        by_cases w : r = D
        · rw [w, mq_up_s]; exact fun y => z y.symm
        · rw [mq_up_n w]; exact g5 r r0 (by omega)
  · show mq_wl (mq_up P D c) q (mq_up P D c q) ((mm_pi (mm_pi M 40 D v2) 39 D (M.1 38 c)).1 39 q) ∧ (mm_pi M 40 D v2).1 40 q = t (mq_up A D k q + (mq_up S D (l + 1) q - 1))
    by_cases z : q = D
    · subst z
      rw [mq_ps, mq_ps, mq_up_s, mq_up_s, mq_up_s]
      refine ⟨?_, by rw [h2]; rfl⟩
      rcases h.1 c hc with ⟨g1, g2⟩ | ⟨q2, g1, g2, g3, g4, g5⟩
      · exact .inl ⟨g1, fun r r0 r1 => by rw [mq_up_n (by omega)]; exact g2 r r0 r1⟩
      · exact .inr ⟨q2, g1, g2, g3, by rw [mq_up_n (by omega)]; exact g4, fun r r0 r1 => by rw [mq_up_n (by omega)]; exact g5 r r0 r1⟩
    · rw [mq_pj z, mq_pj z, mq_up_n z, mq_up_n z, mq_up_n z]
      obtain ⟨h3, h4⟩ := h.2 q q0 (by omega)
      refine ⟨?_, h4⟩
      show mq_wl (mq_up P D c) q (P q) (M.1 39 q)
      rcases h3 with ⟨g1, g2⟩ | ⟨q2, g1, g2, g3, g4, g5⟩
      · exact .inl ⟨g1, fun r r0 r1 => by rw [mq_up_n (by omega)]; exact g2 r r0 r1⟩
      · exact .inr ⟨q2, g1, g2, g3, by rw [mq_up_n (by omega)]; exact g4, fun r r0 r1 => by rw [mq_up_n (by omega)]; exact g5 r r0 r1⟩
