/-! COPIES AND PLAIN BYTES, IN STEP -/
theorem md_196L {N : mm_M} {v d s : Int32} (h : mq_Z N) : mq_D N (mf_196_L97 v d s N) := by
  unfold mf_196_L97
  refine mq_d_L ?_
  unfold mf_196_b97
  refine mq_1_ite (fun _ => ?_) (fun _ => mq_1_ret ⟨⟨_, rfl⟩, mq_ob_refl⟩)
  rw [if_neg (by rw [h.1]; decide)]
  exact mq_1_ret ⟨⟨_, rfl⟩, mq_ob_refl⟩
theorem mq_2_Bl' {α β γ : Type} {E : mm_M → β → mm_M → Prop} {Q : γ → mm_M → β → mm_M → Prop} {P : α → mm_M → β → mm_M → Prop} {x : mm_O α} {y : mm_O β} {f : α → mm_M → mm_O γ} (h : mq_2 E x y P) (hf : ∀ a M b N, P a M b N → ∃ c, f a M = some (.inl c, M) ∧ Q c M b N) : mq_2 E (mm_B x f) y Q := by
  obtain ⟨b, N, e, q⟩ := h
  refine ⟨b, N, e, ?_⟩
  rcases q with ⟨a, M, e1, q⟩ | ⟨M, e1, q⟩
  · obtain ⟨c, ec, hQ⟩ := hf a M b N q
    exact .inl ⟨c, M, by rw [e1]; exact ec, hQ⟩
  · exact .inr ⟨M, by rw [e1]; rfl, q⟩
theorem mq_rep {M N : mm_M} {fr len d : Int32} (h : mq_S M N) (l1 : len.toInt ≤ 100000) (l0 : 0 ≤ len.toInt) (hd : 1 ≤ d.toInt) (hd2 : d.toInt ≤ (M.1 3 1).toInt) (hfr : fr.toInt = (M.1 3 1).toInt - d.toInt) : mq_2 (fun M _ N => mq_X M N) (mf_54_L22 fr len 0 M) (mf_196_L97 len d 0 N) (fun _ M2 _ N2 => mq_S M2 N2 ∧ (M2.1 3 1).toInt = (M.1 3 1).toInt + len.toInt ∧ mq_rem M2 = mq_rem M) := by
  unfold mf_54_L22 mf_196_L97
  refine mq_2_L (I := fun a M2 b N2 => a = b ∧ 0 ≤ a.toInt ∧ a.toInt ≤ len.toInt ∧ mq_S M2 N2 ∧ (M2.1 3 1).toInt = (M.1 3 1).toInt + a.toInt ∧ mq_rem M2 = mq_rem M) (J := fun M _ N => mq_X M N) (m := fun a _ => (len.toInt - a.toInt).toNat) ?_ ?_ ⟨rfl, by decide, l0, h, by simp only [Int32.reduceToInt]; omega, rfl⟩
  · rintro k M2 b N2 ⟨rfl, k0, k1, hS, hs, hr⟩
    unfold mf_54_b22 mf_196_b97
    by_cases c : k < len
    · rw [if_pos c, if_pos c, if_pos hS.2.2.2.2.1]
      rw [Int32.lt_iff_toInt_lt] at c
      obtain ⟨u1, u2, u3, u4⟩ := hS.2.1
      have ek : (k + 1).toInt = k.toInt + 1 := by rw [mi_add]; simp only [Int32.reduceToInt]; omega
      have e1 : (fr + k).toInt = fr.toInt + k.toInt := by rw [mi_add]; omega
      have e2 : (M2.1 3 1 - d).toInt = (M2.1 3 1).toInt - d.toInt := by rw [mi_sub]; omega
      have e3 : fr + k = N2.1 84 4 - d := by rw [← u1]; exact Int32.toInt_inj.mp (by omega)
      obtain ⟨q1, q2, q3⟩ := u4 (fr + k).toNatClampNeg (by rw [mq_cl]; omega)
      rw [← e3, if_pos (mq_inr (by omega) (by omega)), if_pos (mq_inr (by omega) (by omega)), q1]
      rw [q1] at q2 q3
      refine mq_2_B (mq_put hS q2 q3) ?_ ?_
      · rintro _ M3 b N3 ⟨rfl, hS3, hs3, _, hr3⟩
        exact mq_2_ret (.inl ⟨_, _, rfl, rfl, ⟨rfl, by omega, by omega, hS3, by omega, by omega⟩, by omega⟩)
      · rintro M3 b N3 ⟨rfl, hx⟩
        exact mq_1_ret (.inl ⟨_, rfl, hx⟩)
    · rw [if_neg c, if_neg c]
      rw [Int32.lt_iff_toInt_lt] at c
      exact mq_2_ret (.inr ⟨_, _, rfl, rfl, hS, by omega, hr⟩)
  · intro M2 b N2 hx
    exact mq_xd hx (fun z => md_196L z)
theorem mq_copy {M N : mm_M} {len fl : Int32} {dist : Int64} (h : mq_S M N) (l0 : 0 ≤ len.toInt) (l1 : len.toInt ≤ 100000) (d0 : 0 ≤ dist.toInt) (hfl : fl = 0 ∨ (0 ≤ fl.toInt ∧ 1 ≤ dist.toInt ∧ dist.toInt ≤ (M.1 3 1).toInt - fl.toInt)) : mq_2 (fun M _ N => mq_X M N) (mf_53 len dist M) (mf_196 len dist fl N) (fun _ M2 _ N2 => mq_S M2 N2 ∧ (M2.1 3 1).toInt = (M.1 3 1).toInt + len.toInt ∧ mq_rem M2 = mq_rem M) := by
  obtain ⟨hT, hU, hV, hG, hH⟩ := h
  have hU0 := hU
  have hV0 := hV
  obtain ⟨u1, u2, u3, u4⟩ := hU
  obtain ⟨v1, v2, v3, v4, v5, v6⟩ := hV
  have f0 : 0 ≤ fl.toInt := by
    rcases hfl with q | q
    · rw [q]; decide
    · exact q.1
  unfold mf_53 mf_196
  rw [if_pos hH.1]
  by_cases ok : 1 ≤ dist.toInt ∧ dist.toInt ≤ (M.1 3 1).toInt - fl.toInt
  · obtain ⟨o1, o2⟩ := ok
    have ed : dist.toInt32.toInt = dist.toInt := by
      rw [Int64.toInt_toInt32, mi_bm]; omega
    have es : (N.1 84 4 - fl).toInt = (M.1 3 1).toInt - fl.toInt := by rw [← u1, mi_sub]; omega
    have ef : (M.1 3 1 - dist.toInt32).toInt = (M.1 3 1).toInt - dist.toInt := by rw [mi_sub]; omega
    have c1 : (0 : Int64) < dist := by rw [Int64.lt_iff_toInt_lt]; simp only [Int64.reduceToInt]; omega
    have c2 : ¬ (M.1 3 1).toInt64 < dist := by rw [Int64.lt_iff_toInt_lt, Int32.toInt_toInt64]; omega
    have c3 : ¬ dist = 0 := by intro q; rw [q] at o1; exact absurd o1 (by decide)
    have c4 : ¬ (N.1 84 4 - fl).toInt64 < dist := by rw [Int64.lt_iff_toInt_lt, Int32.toInt_toInt64]; omega
    rw [if_pos c1, if_neg c2, if_neg c3, if_neg c4]
    unfold mf_53_j21 mf_196_j30
    rw [if_pos hH.1]
    have e27 : mf_27 0 M = some (.inl (), M) := rfl
    rw [e27]
    -- what is told
    have key : ∀ (s10 s11 : Int32), mm_max (M.1 3 4) len = s10 → mm_max (M.1 3 5) dist.toInt32 = s11 → mq_2 (fun M _ N => mq_X M N) (mm_B (mf_54 (M.1 3 1 - dist.toInt32) len (mm_pi (mm_pi (mm_pi M 3 3 (M.1 3 3 + 1)) 3 4 (mm_max (M.1 3 4) len)) 3 5 (mm_max (M.1 3 5) dist.toInt32))) (fun _ M2 => some (.inl (), M2))) (mm_B (mf_196_L97 len dist.toInt32 0 (mm_pi (mm_pi (mm_pi N 84 9 (N.1 84 9 + 1)) 84 10 s10) 84 11 s11)) (fun _ M1 => some (.inl (), M1))) (fun (_ : Unit) M2 (_ : Unit) N2 => mq_S M2 N2 ∧ (M2.1 3 1).toInt = (M.1 3 1).toInt + len.toInt ∧ mq_rem M2 = mq_rem M) := by
      rintro s10 s11 q10 q11
      refine mq_2_B (E := fun M _ N => mq_X M N) (P := fun _ M2 _ N2 => mq_S M2 N2 ∧ (M2.1 3 1).toInt = (M.1 3 1).toInt + len.toInt ∧ mq_rem M2 = mq_rem M) ?_ (fun _ _ _ _ q => mq_2_ret q) (fun _ _ _ q => mq_1_ret q)
      unfold mf_54
      have w1 : ¬ (M.1 3 1 - dist.toInt32) < 0 := by rw [Int32.lt_iff_toInt_lt]; simp only [Int32.reduceToInt]; omega
      have w2 : (M.1 3 1 - dist.toInt32) < M.1 3 1 := by rw [Int32.lt_iff_toInt_lt]; omega
      rw [if_neg w1, if_pos (show (M.1 3 1 - dist.toInt32) < (mm_pi (mm_pi (mm_pi M 3 3 (M.1 3 3 + 1)) 3 4 (mm_max (M.1 3 4) len)) 3 5 (mm_max (M.1 3 5) dist.toInt32)).1 3 1 from w2)]
      unfold mf_54_j17
      have e27 : ∀ M, mf_27 0 M = some (.inl (), M) := fun _ => rfl
      rw [e27]
      show mq_2 _ (mm_B (mf_54_L22 _ _ _ _) _) _ _
      refine mq_2_Bl' (mq_rep (M := mm_pi (mm_pi (mm_pi M 3 3 (M.1 3 3 + 1)) 3 4 (mm_max (M.1 3 4) len)) 3 5 (mm_max (M.1 3 5) dist.toInt32)) ⟨hT, hU0, ⟨v1, v2, ?_, ?_, ?_, v6⟩, hG, hH⟩ l1 l0 (by omega) (by rw [ed]; show dist.toInt ≤ (M.1 3 1).toInt; omega) (by rw [ed, ef]; rfl)) (fun a M2 b N2 q => ⟨(), rfl, q⟩)
      · show M.1 3 3 + 1 = N.1 84 9 + 1
        rw [v3]
      · exact q10
      · exact q11
    unfold mf_196_j69
    by_cases a : N.1 84 10 < len
    · rw [if_pos a]
      by_cases b : N.1 84 11 < dist.toInt32
      · rw [if_pos (show (mm_pi N 84 9 (N.1 84 9 + 1)).1 84 11 < dist.toInt32 from b)]
        exact key len dist.toInt32 (by unfold mm_max; rw [v4, if_pos a]) (by unfold mm_max; rw [v5, if_pos b])
      · rw [if_neg (show ¬ (mm_pi N 84 9 (N.1 84 9 + 1)).1 84 11 < dist.toInt32 from b)]
        exact key len (N.1 84 11) (by unfold mm_max; rw [v4, if_pos a]) (by unfold mm_max; rw [v5, if_neg b])
    · rw [if_neg a]
      by_cases b : N.1 84 11 < dist.toInt32
      · rw [if_pos (show (mm_pi N 84 9 (N.1 84 9 + 1)).1 84 11 < dist.toInt32 from b)]
        exact key (N.1 84 10) dist.toInt32 (by unfold mm_max; rw [v4, if_neg a]) (by unfold mm_max; rw [v5, if_pos b])
      · rw [if_neg (show ¬ (mm_pi N 84 9 (N.1 84 9 + 1)).1 84 11 < dist.toInt32 from b)]
        exact key (N.1 84 10) (N.1 84 11) (by unfold mm_max; rw [v4, if_neg a]) (by unfold mm_max; rw [v5, if_neg b])
  · rcases hfl with q | q
    · have hx : mq_X (mm_th M) (mm_pi N 84 7 1) := ⟨hT, hU0, hV0, rfl, hH.2.1, by show (M.1 1 2).toInt ≤ (M.1 1 1).toInt; have := hH.2.2; omega⟩
      have hl : (if (0 : Int64) < dist then (if (M.1 3 1).toInt64 < dist then mf_53_j21 len dist 1 M else mf_53_j21 len dist 0 M) else mf_53_j21 len dist 1 M) = some (.inr 0, mm_th M) := by
        have e1 : mf_53_j21 len dist 1 M = some (.inr 0, mm_th M) := rfl
        rw [q] at ok
        simp only [Int32.reduceToInt] at ok
        by_cases c1 : (0 : Int64) < dist
        · rw [if_pos c1, if_pos (by rw [Int64.lt_iff_toInt_lt] at c1 ⊢; rw [Int32.toInt_toInt64]; simp only [Int64.reduceToInt] at c1; omega)]
          exact e1
        · rw [if_neg c1]; exact e1
      have hrr : (if dist = 0 then mf_196_j26 len dist N else (if (N.1 84 4 - fl).toInt64 < dist then mf_196_j26 len dist N else mf_196_j30 len dist N)) = some (.inl (), mm_pi N 84 7 1) := by
        have e1 : mf_196_j26 len dist N = some (.inl (), mm_pi N 84 7 1) := rfl
        rw [q] at ok ⊢
        simp only [Int32.reduceToInt] at ok
        by_cases c1 : dist = 0
        · rw [if_pos c1]; exact e1
        · have : dist.toInt ≠ 0 := fun q => c1 (Int64.toInt_inj.mp (by rw [q]; rfl))
          have es : (N.1 84 4 - 0).toInt = (M.1 3 1).toInt := by rw [← u1, mi_sub]; simp only [Int32.reduceToInt]; omega
          rw [if_neg c1, if_pos (by rw [Int64.lt_iff_toInt_lt, Int32.toInt_toInt64]; omega)]
          exact e1
      rw [hl, hrr]
      exact mq_2_thr hx
    · exact absurd q.2 ok
