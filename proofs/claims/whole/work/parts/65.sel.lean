/-! FORM 9: move to front; selectors, in step -/
theorem mq_mtf {M N : mm_M} {p np q nq len : Nat} {z v : Int32} {s2 : Int32 → mm_M → mm_O (Int32 ⊕ Unit)} {R : Int32 → Prop} (hs2 : ∀ v N, s2 v N = if 0 < v then (if mm_in (v - (1 : Int32)) nq then if mm_in v nq then some (.inl (.inl (v + (-1 : Int32))), (mm_pi N q v.toNatClampNeg (N.1 q (v - (1 : Int32)).toNatClampNeg))) else none else none) else (some (.inl (.inr ()), N))) (v0 : 0 ≤ v.toInt) (v1 : v.toInt < len) (hp : len ≤ np) (hq : len ≤ nq) (hq2 : len ≤ 1000) (hv : ∀ j, j < len → M.1 p j = N.1 q j ∧ R (M.1 p j)) : mq_2 mq_F (mf_141_L17 p np z v M) (mm_L s2 v N) (fun _ M2 _ N2 => (∀ j, j < len → M2.1 p j = N2.1 q j ∧ R (M2.1 p j)) ∧ mq_kp [(p, none)] M M2 ∧ mq_kp [(q, none)] N N2) := by
  unfold mf_141_L17
  refine mq_2_Lf (I := fun (a : Int32) M2 (b : Int32) N2 => a = b ∧ 0 ≤ a.toInt ∧ a.toInt < len ∧ (∀ j, j < len → M2.1 p j = N2.1 q j ∧ R (M2.1 p j)) ∧ mq_kp [(p, none)] M M2 ∧ mq_kp [(q, none)] N N2) (m := fun (a : Int32) _ => a.toInt.toNat) ?_ ⟨rfl, v0, v1, hv, mq_kp_refl, mq_kp_refl⟩
  rintro a M2 b N2 ⟨rfl, a0, a1, hv, k1, k2⟩
  rw [hs2]
  unfold mf_141_b17
  by_cases c : 0 < a
  · rw [if_pos c, if_pos c]
    rw [Int32.lt_iff_toInt_lt] at c
    simp only [Int32.reduceToInt] at c
    have em : (a - 1).toInt = a.toInt - 1 := by rw [mi_sub]; simp only [Int32.reduceToInt]; omega
    have en : (a + (-1)).toInt = a.toInt - 1 := by rw [mi_add]; simp only [Int32.reduceToInt]; omega
    have emn : (a - 1).toNatClampNeg < len := by rw [mq_cl]; omega
    rw [if_pos (mq_inr (by omega) (by omega)), if_pos (mq_inr (by omega) (by omega)), if_pos (mq_inr (by omega) (by omega)), if_pos (mq_inr (by omega) (by omega))]
    refine mq_2_ret (.inl ⟨_, _, rfl, rfl, ⟨rfl, by omega, by omega, ?_, mq_kp_pi k1 (by simp [mq_ws]), mq_kp_pi k2 (by simp [mq_ws])⟩, by omega⟩)
    intro j hj
    by_cases e : j = a.toNatClampNeg
    · rw [e, mq_ps, mq_ps]; exact hv _ emn
    · rw [mq_pj e, mq_pj e]; exact hv j hj
  · rw [if_neg c, if_neg c]
    exact mq_2_ret (.inr ⟨_, _, rfl, rfl, hv, k1, k2⟩)
/-- the class's move, whole, beside the reference's loop and its last step -/
theorem mq_mtf2 {M N : mm_M} {p np q nq len : Nat} {v : Int32} {s2 : Int32 → mm_M → mm_O (Int32 ⊕ Unit)} {R : Int32 → Prop} (hs2 : ∀ v N, s2 v N = if 0 < v then (if mm_in (v - (1 : Int32)) nq then if mm_in v nq then some (.inl (.inl (v + (-1 : Int32))), (mm_pi N q v.toNatClampNeg (N.1 q (v - (1 : Int32)).toNatClampNeg))) else none else none) else (some (.inl (.inr ()), N))) (v0 : 0 ≤ v.toInt) (v1 : v.toInt < len) (hp : len ≤ np) (hnp : np ≤ 1000) (hq : len ≤ nq) (hq2 : len ≤ 1000) (hv : ∀ j, j < len → M.1 p j = N.1 q j ∧ R (M.1 p j)) : mq_2 mq_F (mf_141 p np v M) (mm_B (mm_L s2 v N) (fun (_ : Unit) N2 => (some (.inl (), mm_pi N2 q 0 (N.1 q v.toNatClampNeg)) : mm_O Unit))) (fun _ M2 _ N2 => (∀ j, j < len → M2.1 p j = N2.1 q j ∧ R (M2.1 p j)) ∧ mq_kp [(p, none)] M M2 ∧ mq_kp [(q, none)] N N2 ∧ M2.1 p 0 = N.1 q v.toNatClampNeg) := by
  have hx := hv v.toNatClampNeg (by rw [mq_cl]; omega)
  unfold mf_141 mf_141_j35
  have enp : (Int32.ofNat np).toInt = np := Int32.toInt_ofNat_of_lt (by omega)
  rw [if_neg (show ¬ v < 0 from by rw [Int32.lt_iff_toInt_lt]; simp only [Int32.reduceToInt]; omega), if_pos (show v < Int32.ofNat np from by rw [Int32.lt_iff_toInt_lt, enp]; omega), if_pos (mq_inr v0 (by omega)), hx.1]
  refine mq_2_Bf (mq_mtf (R := R) hs2 v0 v1 hp hq hq2 hv) ?_
  rintro _ M2 _ N2 ⟨h1, k1, k2⟩
  rw [if_pos (mq_inr (by decide) (by simp only [Int32.reduceToInt]; omega)), show (0 : Int32).toNatClampNeg = 0 from rfl]
  refine mq_2_ret ⟨?_, mq_kp_pi k1 (by simp [mq_ws]), mq_kp_pi k2 (by simp [mq_ws]), mq_ps⟩
  intro j hj
  by_cases e : j = 0
  · rw [e, mq_ps, mq_ps, ← hx.1]; exact ⟨rfl, hx.2⟩
  · rw [mq_pj e, mq_pj e]; exact h1 j hj
/-- how many ones stand before the zero -/
theorem mq_ones {M N : mm_M} {n z1 z2 : Int32} (hS : mq_S M N) (hf : M.1 1 4 = N.1 84 13) (n0 : 2 ≤ n.toInt) (n1 : n.toInt ≤ 6) (ht : N.1 84 29 = n) : mq_2 mq_XE (mf_140_L63 n z1 0 M) (mf_226_L40 z2 0 N) (fun r M2 t N2 => r = t ∧ 0 ≤ r.toInt ∧ r.toInt ≤ n.toInt ∧ mq_rem M2 < mq_rem M ∧ (r.toInt < n.toInt ∧ mq_S M2 N2 ∧ M2.1 1 4 = N2.1 84 13 ∨ r = n ∧ mq_X M2 N2)) := by
  unfold mf_140_L63 mf_226_L40
  refine mq_2_L (I := fun (a : Int32) M2 (b : Int32) N2 => a = b ∧ 0 ≤ a.toInt ∧ a.toInt ≤ n.toInt ∧ mq_rem M2 + a.toInt ≤ mq_rem M ∧ N2.1 84 29 = n ∧ (a.toInt < n.toInt ∧ mq_S M2 N2 ∧ M2.1 1 4 = N2.1 84 13 ∨ a = n ∧ mq_X M2 N2)) (J := fun M (_ : Int32) N => mq_X M N) (m := fun (a : Int32) _ => (10 - a.toInt).toNat) ?_ ?_ ⟨rfl, by decide, by simp only [Int32.reduceToInt]; omega, by simp only [Int32.reduceToInt]; omega, ht, .inl ⟨by simp only [Int32.reduceToInt]; omega, hS, hf⟩⟩
  · rintro a M2 b N2 ⟨rfl, a0, a1, hr, ht, hh⟩
    unfold mf_140_b63 mf_226_b40
    have e1 : (a + 1).toInt = a.toInt + 1 := by rw [mi_add]; simp only [Int32.reduceToInt]; omega
    rcases hh with ⟨a2, hS, hf⟩ | ⟨rfl, hx⟩
    · rw [if_pos (show a < n from by rw [Int32.lt_iff_toInt_lt]; exact a2), if_pos hS.2.2.2.2.1]
      refine mq_2_B (mq_2_K (mq_bit hS hf) mk_45 mk_197) ?_ ?_
      · rintro v M3 b N3 ⟨⟨rfl, hv, hS3, hf3, hr3⟩, k1, k2⟩
        have ht3 : N3.1 84 29 = n := by rw [(k2 84 29 rfl).1]; exact ht
        rcases hv with rfl | rfl
        · rw [if_neg (show ¬ (0 : Int32) = 1 from by decide), if_neg (show ¬ (0 : Int32) = 1 from by decide)]
          exact mq_2_ret (.inr ⟨_, _, rfl, rfl, rfl, a0, a1, by omega, .inl ⟨a2, hS3, hf3⟩⟩)
        · rw [if_pos rfl, if_pos rfl, ht3]
          by_cases c : a + 1 < n
          · rw [if_pos c]
            rw [Int32.lt_iff_toInt_lt] at c
            exact mq_2_ret (.inl ⟨_, _, rfl, rfl, ⟨rfl, by omega, by omega, by omega, ht3, .inl ⟨c, hS3, hf3⟩⟩, by omega⟩)
          · rw [if_neg c, mq_190, mq_Bs]
            rw [Int32.lt_iff_toInt_lt] at c
            exact mq_2_ret (.inl ⟨_, _, rfl, rfl, ⟨rfl, by omega, by omega, by omega, ht3, .inr ⟨Int32.toInt_inj.mp (by omega), mq_S_bad hS3⟩⟩, by omega⟩)
      · rintro M3 b N3 ⟨hx, _, k2⟩
        refine mq_1_ite (fun _ => mq_1_ite (fun _ => mq_1_ret (.inl ⟨_, rfl, hx⟩)) (fun _ => ?_)) (fun _ => mq_1_ret (.inr ⟨_, rfl, hx⟩))
        exact mq_1_B (mq_xd hx (fun z => md_190 z)) (fun _ _ hx => mq_1_ret (.inl ⟨_, rfl, hx⟩))
    · rw [if_neg (show ¬ a < a from Int32.lt_irrefl), if_neg (show ¬ N2.1 84 7 = 0 from by rw [hx.2.2.2.1]; decide)]
      exact mq_2_ret (.inr ⟨_, _, rfl, rfl, rfl, a0, a1, by omega, .inr ⟨rfl, hx⟩⟩)
  · intro M2 b N2 hx
    exact mq_xd hx (fun z => md_226_L40 z mq_ob_refl)
/-- the selectors that are told so far -/
def mq_se (n : Int32) (k : Nat) (M N : mm_M) : Prop := ∀ i, i < k → 0 ≤ (N.1 93 i).toInt ∧ (N.1 93 i).toInt < n.toInt ∧ (i < 1601 → M.1 45 i = N.1 93 i)
def mq_tr (n : Int32) (M N : mm_M) : Prop := ∀ j : Nat, j < n.toInt.toNat → M.1 44 j = N.1 97 j ∧ (0 ≤ (M.1 44 j).toInt ∧ (M.1 44 j).toInt < n.toInt)
theorem mq_sel {M N : mm_M} {n cnt : Int32} (hS : mq_S M N) (hf : M.1 1 4 = N.1 84 13) (n0 : 2 ≤ n.toInt) (n1 : n.toInt ≤ 6) (ht : N.1 84 29 = n) (hc : M.1 42 7 = cnt) (hc2 : N.1 84 30 = cnt) (c0 : 0 ≤ cnt.toInt) (c1 : cnt.toInt < 32768) : mq_2 mq_XE (mf_140_j27 n 0 M) (mf_226 N) (fun _ M2 _ N2 => mq_S M2 N2 ∧ M2.1 1 4 = N2.1 84 13 ∧ mq_rem M2 ≤ mq_rem M ∧ mq_se n cnt.toInt.toNat M2 N2) := by
  unfold mf_140_j27 mf_226
  rw [mq_27, mq_Bs]
  refine mq_2_B (E := mq_XE) (P := fun _ M2 _ N2 => mq_tr n M2 N2 ∧ mq_kp [(44, none)] M M2 ∧ mq_kp [(97, none)] N N2) ?_ ?_ ?_
  · unfold mf_140_L32 mf_226_L2
    refine mq_F_X (mq_2_Lf (I := fun (a : Int32) M2 (b : Int32) N2 => a = b ∧ 0 ≤ a.toInt ∧ a.toInt ≤ 6 ∧ (∀ j : Nat, (j : Int) < a.toInt → M2.1 44 j = N2.1 97 j ∧ (M2.1 44 j).toInt = j) ∧ mq_kp [(44, none)] M M2 ∧ mq_kp [(97, none)] N N2) (m := fun (a : Int32) _ => (6 - a.toInt).toNat) ?_ ⟨rfl, by decide, by decide, fun j hj => by simp only [Int32.reduceToInt] at hj; omega, mq_kp_refl, mq_kp_refl⟩)
    rintro a M2 b N2 ⟨rfl, a0, a1, hv, k1, k2⟩
    unfold mf_140_b32 mf_226_b2
    by_cases c : a < 6
    · rw [if_pos c, if_pos c]
      rw [Int32.lt_iff_toInt_lt] at c
      simp only [Int32.reduceToInt] at c
      have e1 : (a + 1).toInt = a.toInt + 1 := by rw [mi_add]; simp only [Int32.reduceToInt]; omega
      rw [if_pos (mq_inr (by omega) (by omega)), if_pos (mq_inr (by omega) (by omega))]
      refine mq_2_ret (.inl ⟨_, _, rfl, rfl, ⟨rfl, by omega, by omega, ?_, mq_kp_pi k1 rfl, mq_kp_pi k2 rfl⟩, by omega⟩)
      intro j hj
      by_cases e : j = a.toNatClampNeg
      · rw [e, mq_ps, mq_ps, mq_cl]; exact ⟨rfl, by omega⟩
      · rw [mq_pj e, mq_pj e]
        rw [mq_cl] at e
        exact hv j (by omega)
    · rw [if_neg c, if_neg c]
      rw [Int32.lt_iff_toInt_lt] at c
      simp only [Int32.reduceToInt] at c
      refine mq_2_ret (.inr ⟨_, _, rfl, rfl, ?_, k1, k2⟩)
      intro j hj
      obtain ⟨q1, q2⟩ := hv j (by omega)
      exact ⟨q1, by omega, by omega⟩
  · rintro _ M2 _ N2 ⟨htr, k1, k2⟩
    obtain ⟨hS2, hr2, f1, f2⟩ := mq_S_kp hS k1 k2 rfl rfl
    refine mq_2_B (E := mq_XE) (P := fun _ M2 _ N2 => mq_S M2 N2 ∧ M2.1 1 4 = N2.1 84 13 ∧ mq_rem M2 ≤ mq_rem M ∧ mq_se n cnt.toInt.toNat M2 N2) ?_ (fun _ _ _ _ q => mq_2_ret q) (fun _ _ _ q => mq_1_ret q)
    unfold mf_140_L53 mf_226_L23
    refine mq_2_L (I := fun (a : Int32) M3 (b : Int32) N3 => a = b ∧ 0 ≤ a.toInt ∧ a.toInt ≤ cnt.toInt ∧ mq_S M3 N3 ∧ M3.1 1 4 = N3.1 84 13 ∧ mq_rem M3 ≤ mq_rem M ∧ M3.1 42 7 = cnt ∧ N3.1 84 30 = cnt ∧ N3.1 84 29 = n ∧ mq_tr n M3 N3 ∧ mq_se n a.toInt.toNat M3 N3) (J := fun M (_ : Int32) N => mq_X M N) (m := fun (a : Int32) _ => (cnt.toInt - a.toInt).toNat) ?_ ?_ ⟨rfl, by decide, c0, hS2, by rw [f1, f2]; exact hf, by omega, by rw [(k1 42 7 rfl).1]; exact hc, by rw [(k2 84 30 rfl).1]; exact hc2, by rw [(k2 84 29 rfl).1]; exact ht, htr, fun i hi => by simp only [Int32.reduceToInt] at hi; omega⟩
    · rintro a M3 b N3 ⟨rfl, a0, a1, hS3, hf3, hr3, hc, hc2, ht, htr, hse⟩
      unfold mf_140_b53 mf_226_b23
      rw [hc, hc2]
      by_cases c : a < cnt
      · rw [if_pos c, if_pos c, if_pos hS3.2.2.2.2.1]
        rw [Int32.lt_iff_toInt_lt] at c
        have e1 : (a + 1).toInt = a.toInt + 1 := by rw [mi_add]; simp only [Int32.reduceToInt]; omega
        refine mq_2_B (mq_2_K (mq_ones (z1 := a) (z2 := a) hS3 hf3 n0 n1 ht) mk_140_L63 mk_226_L40) ?_ ?_
        · rintro r M4 t N4 ⟨⟨rfl, r0, r1, r2, hh⟩, k3, k4⟩
          unfold mf_140_j85 mf_140_j95 mf_226_j73
          rcases hh with ⟨q1, hS4, hf4⟩ | ⟨rfl, hx⟩
          · rw [if_pos (show r < n from by rw [Int32.lt_iff_toInt_lt]; exact q1), mq_27, mq_Bs, if_pos hS4.2.2.2.2.1, if_pos (mq_inr r0 (by omega))]
            have htr4 : ∀ j, j < n.toInt.toNat → M4.1 44 j = N4.1 97 j ∧ (0 ≤ (M4.1 44 j).toInt ∧ (M4.1 44 j).toInt < n.toInt) := by
              intro j hj
              rw [(k3 44 j rfl).1, (k4 97 j rfl).1]; exact htr j hj
            have hrv := htr4 r.toNatClampNeg (by rw [mq_cl]; omega)
            -- the move, both
            have mv := mq_mtf2 (M := M4) (N := N4) (p := 44) (np := 6) (q := 97) (nq := 6) (len := n.toInt.toNat) (v := r) (s2 := fun s M => mf_226_b90 a (N4.1 97 r.toNatClampNeg) s M) (R := fun x => 0 ≤ x.toInt ∧ x.toInt < n.toInt) (fun _ _ => rfl) r0 (by omega) (by omega) (by omega) (by omega) (by omega) htr4
            obtain ⟨_, N5, eN, ⟨_, M5, eM, m1, m2, m3, m4⟩ | ⟨_, _, hF⟩⟩ := mv
            · rw [eM, mq_Bs]
              unfold mf_226_L90
              match hL : mm_L (fun s M => mf_226_b90 a (N4.1 97 r.toNatClampNeg) s M) r N4, eN with
              | some (.inl u, N6), eN =>
                rw [mq_Bs]
                have e5 : N5 = mm_pi N6 97 0 (N4.1 97 r.toNatClampNeg) := by
                  have := congrArg (fun o => o) eN
                  simp only [mm_B] at this
                  cases this
                  rfl
                have eJ : mf_226_j117 a (N4.1 97 r.toNatClampNeg) N6 = some (.inl (.inl (a + 1)), mm_pi N5 93 a.toNatClampNeg (N4.1 97 r.toNatClampNeg)) := by
                  unfold mf_226_j117
                  rw [if_pos (show mm_in 0 6 = true from by decide), if_pos (mq_inr a0 (by omega)), show (0 : Int32).toNatClampNeg = 0 from rfl, ← e5]
                rw [eJ]
                obtain ⟨s1, s2, s3, s4⟩ := mq_S_kp hS4 m2 m3 rfl rfl
                have ean : a.toNatClampNeg = a.toInt.toNat := rfl
                have rest : ∀ {M7 : mm_M}, mq_kp [(44, none), (45, none)] M4 M7 → (∀ j, j < n.toInt.toNat → M7.1 44 j = M5.1 44 j) → (∀ i, i < 1601 → M7.1 45 i = if i = a.toInt.toNat then N4.1 97 r.toNatClampNeg else M4.1 45 i) → mq_2 (fun M t N => (∃ b, t = .inl b ∧ mq_X M N) ∨ (∃ v, t = .inr v ∧ mq_X M N)) (some (.inl (.inl (a + 1)), M7) : mm_O (Int32 ⊕ Unit)) (some (.inl (.inl (a + 1)), mm_pi N5 93 a.toNatClampNeg (N4.1 97 r.toNatClampNeg)) : mm_O (Int32 ⊕ Unit)) (fun r M5 t N5 => (∃ a2 b2, r = .inl a2 ∧ t = .inl b2 ∧ (a2 = b2 ∧ 0 ≤ a2.toInt ∧ a2.toInt ≤ cnt.toInt ∧ mq_S M5 N5 ∧ M5.1 1 4 = N5.1 84 13 ∧ mq_rem M5 ≤ mq_rem M ∧ M5.1 42 7 = cnt ∧ N5.1 84 30 = cnt ∧ N5.1 84 29 = n ∧ mq_tr n M5 N5 ∧ mq_se n a2.toInt.toNat M5 N5) ∧ (cnt.toInt - a2.toInt).toNat < (cnt.toInt - a.toInt).toNat) ∨ (∃ u v, r = .inr u ∧ t = .inr v ∧ (mq_S M5 N5 ∧ M5.1 1 4 = N5.1 84 13 ∧ mq_rem M5 ≤ mq_rem M ∧ mq_se n cnt.toInt.toNat M5 N5))) := by
                  intro M7 kM hM hsel
                  have kN : mq_kp [(97, none), (93, none)] N4 (mm_pi N5 93 a.toNatClampNeg (N4.1 97 r.toNatClampNeg)) := mq_kp_pi (mq_kp_sub m3 rfl) rfl
                  obtain ⟨u1, u2, u3, u4⟩ := mq_S_kp hS4 kM kN rfl rfl
                  refine mq_2_ret (.inl ⟨_, _, rfl, rfl, ⟨rfl, by omega, by omega, u1, by rw [u3, u4]; exact hf4, by omega, ?_, ?_, ?_, ?_, ?_⟩, by omega⟩)
                  · rw [(kM 42 7 rfl).1, (k3 42 7 rfl).1]; exact hc
                  · rw [(kN 84 30 rfl).1, (k4 84 30 rfl).1]; exact hc2
                  · rw [(kN 84 29 rfl).1, (k4 84 29 rfl).1]; exact ht
                  · intro j hj
                    rw [hM j hj, mq_pn (by decide)]
                    exact m1 j hj
                  · intro i hi
                    by_cases q : i = a.toInt.toNat
                    · rw [q, ← ean, mq_ps]
                      refine ⟨by rw [← hrv.1]; exact hrv.2.1, by rw [← hrv.1]; exact hrv.2.2, fun h => ?_⟩
                      rw [ean] at h ⊢
                      rw [hsel _ h, if_pos rfl]
                    · rw [mq_pj (by rw [ean]; exact q), (m3 93 i rfl).1, (k4 93 i rfl).1]
                      obtain ⟨t1, t2, t3⟩ := hse i (by omega)
                      refine ⟨t1, t2, fun h => ?_⟩
                      rw [hsel i h, if_neg q, (k3 45 i rfl).1]
                      exact t3 h
                by_cases g : a < 1601
                · rw [if_pos g, if_pos (show mm_in 0 6 = true from by decide)]
                  rw [Int32.lt_iff_toInt_lt] at g
                  simp only [Int32.reduceToInt] at g
                  rw [if_pos (mq_inr a0 (by omega)), show (0 : Int32).toNatClampNeg = 0 from rfl, m4]
                  refine rest (mq_kp_pi (mq_kp_sub m2 rfl) rfl) (fun j hj => mq_pn (by decide)) (fun i hi => ?_)
                  by_cases q : i = a.toInt.toNat
                  · rw [if_pos q, q, ← ean, mq_ps]
                  · rw [if_neg q, mq_pj (by rw [ean]; exact q), (m2 45 i rfl).1]
                · rw [if_neg g]
                  rw [Int32.lt_iff_toInt_lt] at g
                  simp only [Int32.reduceToInt] at g
                  refine rest (mq_kp_sub m2 rfl) (fun j hj => rfl) (fun i hi => ?_)
                  rw [if_neg (by omega), (m2 45 i rfl).1]
            · exact hF.elim
          · rw [if_neg (show ¬ r < r from Int32.lt_irrefl), mq_27t, mq_Bt, if_neg (show ¬ N4.1 84 7 = 0 from by rw [hx.2.2.2.1]; decide)]
            exact mq_2_thr (.inl ⟨_, rfl, mq_X_th hx⟩)
        · rintro M4 b N4 ⟨hx, _, _⟩
          unfold mf_226_j73
          rw [if_neg (show ¬ N4.1 84 7 = 0 from by rw [hx.2.2.2.1]; decide)]
          exact mq_1_ret (.inl ⟨_, rfl, hx⟩)
      · rw [if_neg c, if_neg c]
        rw [Int32.lt_iff_toInt_lt] at c
        have : a = cnt := Int32.toInt_inj.mp (by omega)
        subst this
        exact mq_2_ret (.inr ⟨_, _, rfl, rfl, hS3, hf3, hr3, hse⟩)
    · intro M3 b N3 hx
      exact mq_xd hx (fun z => md_226_L23 z mq_ob_refl)
  · intro M2 b N2 hx
    exact mq_1_B (mq_xd hx (fun z => md_226_L23 z mq_ob_refl)) (fun _ _ hx => mq_1_ret hx)
