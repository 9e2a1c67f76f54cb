/-! FORM 8: TAGS -/
theorem mi_div {x : Int32} {k : Int32} (h0 : 0 ≤ x.toInt) (k0 : 0 < k.toInt) : (x / k).toInt = x.toInt / k.toInt := by
  rw [Int32.toInt_div, Int.tdiv_eq_ediv_of_nonneg h0, mi_bm]
  have h1 : x.toInt / k.toInt ≤ x.toInt := Int.ediv_le_self _ h0
  have h2 : 0 ≤ x.toInt / k.toInt := Int.ediv_nonneg h0 (by omega)
  have := mq_hi x
  omega
theorem mi_rem {x : Int32} {k : Int32} (h0 : 0 ≤ x.toInt) (k0 : 0 < k.toInt) : (mm_rem x k).toInt = x.toInt % k.toInt := by
  unfold mm_rem
  have h1 := Int.emod_add_mul_ediv x.toInt k.toInt
  have h2 : 0 ≤ x.toInt % k.toInt := Int.emod_nonneg _ (by omega)
  have h3 : x.toInt % k.toInt < k.toInt := Int.emod_lt_of_pos _ k0
  have h4 : 0 ≤ x.toInt / k.toInt := Int.ediv_nonneg h0 (by omega)
  have h5 : 0 ≤ k.toInt * (x.toInt / k.toInt) := Int.mul_nonneg (by omega) h4
  have e : ((x / k) * k).toInt = k.toInt * (x.toInt / k.toInt) := by
    rw [mi_mul, mi_div h0 k0, Int.mul_comm]
    have := mq_hi x
    omega
  rw [mi_sub, e]
  have := mq_hi x
  omega
theorem mi_shrdiv {x : Int32} {k : Int32} {j : Int32} (h0 : 0 ≤ x.toInt) (k0 : 0 ≤ k.toInt) (k1 : k.toInt < 31) (hj : j.toInt = ((2 ^ k.toInt.toNat : Nat) : Int)) : mm_shr x k = x / j := by
  refine Int32.toInt_inj.mp ?_
  have : 0 < 2 ^ k.toInt.toNat := Nat.pow_pos (by decide)
  rw [mi_shr_nat h0 k0 (by omega), mi_div h0 (by omega), hj]
theorem mi_andm (w : Int32) (k : Nat) (hk : k < 31) (m : Int32) (hm : m = Int32.ofNat (2 ^ k - 1)) (j : Int) (hj : j = ((2 ^ k : Nat) : Int)) : (w &&& m).toInt = w.toInt % j := by
  rw [hm, hj]; exact mi_and w k hk
theorem mq_2_Bx {α β γ : Type} {E : mm_M → β → mm_M → Prop} {Q : γ → mm_M → β → mm_M → Prop} {P : α → mm_M → β → mm_M → Prop} {x : mm_O α} {y : mm_O β} {f : α → mm_M → mm_O γ} (h : mq_2 E x y P) (hf : ∀ a M b N, P a M b N → mq_2 E (f a M) (some (.inl b, N)) Q) : mq_2 E (mm_B x f) y Q := by
  obtain ⟨b, N, e, q⟩ := h
  rw [e]
  rcases q with ⟨a, M, e1, q⟩ | ⟨M, e1, q⟩
  · rw [e1]; exact hf a M b N q
  · rw [e1]; exact ⟨b, N, rfl, .inr ⟨M, rfl, q⟩⟩
theorem mq_27 (M : mm_M) : mf_27 0 M = some (.inl (), M) := rfl
theorem mq_27t (M : mm_M) : mf_27 1 M = some (.inr 0, mm_th M) := rfl
theorem mq_190 (M : mm_M) : mf_190 M = some (.inl (), mm_pi M 84 7 1) := rfl
/-- how many bytes are told -/
theorem mq_tagn {M N : mm_M} (h : mq_W M N) : mq_2 mq_XE (mf_125 M) (mf_221_L7 ((0 : Int64), (0 : Int32), (1 : Int32)) N) (fun v M2 b N2 => v = b ∧ 0 ≤ v.toInt ∧ v.toInt ≤ 4294967295 ∧ mq_W M2 N2 ∧ mq_le M M2 ∧ M2.1 3 1 = M.1 3 1) := by
  unfold mf_125
  refine mq_2_Bx (P := fun r M2 b N2 => r.1 = b ∧ r.2 = 0 ∧ 0 ≤ r.1.toInt ∧ r.1.toInt ≤ 4294967295 ∧ mq_W M2 N2 ∧ mq_le M M2 ∧ M2.1 3 1 = M.1 3 1 ∨ (r.2 = 1 ∨ r.2 = 0 ∧ 4294967295 < r.1.toInt) ∧ mq_X M2 N2) ?_ ?_
  · unfold mf_125_L7 mf_221_L7
    refine mq_2_L (I := fun a M2 b N2 => a.1 = b.1 ∧ a.2.1 = b.2.2 ∧ a.2.2 = b.2.1 ∧ ((0 ≤ a.2.2.toInt ∧ a.2.2.toInt ≤ 5 ∧ (a.2.1 = 0 ∨ a.2.1 = 1 ∧ a.2.2.toInt < 5) ∧ mq_n a.1 < 2 ^ (7 * a.2.2.toInt.toNat) ∧ mq_n a.1 ≤ 4294967295 ∧ mq_W M2 N2 ∧ mq_le M M2 ∧ M2.1 3 1 = M.1 3 1) ∨ a.2.2 = 5 ∧ (a.2.1 = 1 ∨ a.2.1 = 0 ∧ 4294967295 < a.1.toInt) ∧ mq_X M2 N2)) (J := fun M _ N => mq_X M N) (m := fun a M2 => (6 - a.2.2.toInt).toNat) ?_ ?_ ⟨rfl, rfl, rfl, .inl ⟨(by decide : 0 ≤ (0 : Int32).toInt), (by decide : (0 : Int32).toInt ≤ 5), .inr ⟨rfl, by decide⟩, (by decide), (by decide), h, mq_le_refl, rfl⟩⟩
    · rintro ⟨v, m, k⟩ M2 ⟨b1, b2, b3⟩ N2 ⟨h1, h2, h3, hh⟩
      dsimp only at h1 h2 h3 hh
      subst h1 h2 h3
      unfold mf_125_b7 mf_221_b7
      dsimp only
      rcases hh with ⟨h4, h5, h6, h7, h8, hW, hl, hs⟩ | ⟨rfl, hm, hx⟩
      · rcases h6 with rfl | ⟨rfl, h6⟩
        · have ev : v.toInt = mq_n v := mq_n_int (by omega)
          rw [if_pos (show (0 : Int32) = 0 from rfl), if_pos (show (0 : Int32) = 0 from rfl)]
          refine mq_2_il (fun _ => ?_) (fun _ => ?_)
          · exact mq_2_ret (.inr ⟨_, _, rfl, rfl, .inl ⟨rfl, rfl, by dsimp only; omega, by dsimp only; omega, hW, hl, hs⟩⟩)
          · exact mq_2_ret (.inr ⟨_, _, rfl, rfl, .inl ⟨rfl, rfl, by dsimp only; omega, by dsimp only; omega, hW, hl, hs⟩⟩)
        · rw [if_pos (show k < 5 from by rw [Int32.lt_iff_toInt_lt]; exact h6), if_neg (by decide), if_neg (by decide), if_pos hW.1.2.2.2.2.1]
          have ek : (k + 1).toInt = k.toInt + 1 := by rw [mi_add]; simp only [Int32.reduceToInt]; omega
          refine mq_2_B (mq_next1 hW) ?_ ?_
          · rintro w M3 b N3 ⟨rfl, w0, w1, hW3, hl3, hr3, hs3⟩
            have a1 : (w &&& 127).toInt = w.toInt % 128 := mi_andm w 7 (by decide) 127 rfl 128 rfl
            have e7 : ((7 : Int32) * k).toInt = 7 * k.toInt := by rw [mi_mul]; simp only [Int32.reduceToInt]; omega
            have e7n : ((7 : Int32) * k).toInt.toNat = 7 * k.toInt.toNat := by omega
            have hn : mq_n (w &&& 127).toInt64 ≤ 127 := by rw [mq_n_i32 (by omega)]; omega
            have hp : 2 ^ (7 * k.toInt.toNat) ≤ 2 ^ 28 := Nat.pow_le_pow_right (by decide) (by omega)
            have hm : mq_n (w &&& 127).toInt64 * 2 ^ (7 * k.toInt.toNat) ≤ 127 * 2 ^ (7 * k.toInt.toNat) := Nat.mul_le_mul_right _ hn
            have hm2 : 2 ^ (7 * k.toInt.toNat) * mq_n (w &&& 127).toInt64 ≤ 2 ^ (7 * k.toInt.toNat) * 127 := Nat.mul_le_mul_left _ hn
            have hsh := mq_n_shl (x := (w &&& 127).toInt64) (k := 7 * k) (by omega) (by omega) (by rw [e7n]; omega)
            rw [e7n] at hsh
            have hv := mq_n_or h7 hsh
            generalize hV : v ||| mm_lshl (w &&& 127).toInt64 (7 * k) = V at hv
            have hb : mq_n V < 2 ^ (7 * (k + 1).toInt.toNat) := by
              have e9 : 7 * (k + 1).toInt.toNat = 7 * k.toInt.toNat + 7 := by omega
              rw [e9, Nat.pow_add, hv]
              omega
            have hb2 : mq_n V < 2 ^ 35 := Nat.lt_of_lt_of_le hb (Nat.pow_le_pow_right (by decide) (by omega))
            have hb3 : k.toInt < 4 → mq_n V < 2 ^ 28 := fun q => Nat.lt_of_lt_of_le hb (Nat.pow_le_pow_right (by decide) (by omega))
            have hV2 : V.toInt = mq_n V := mq_n_int (by omega)
            have k5 : 4294967295 < V.toInt → k + 1 = 5 := by
              intro q
              refine Int32.toInt_inj.mp ?_
              simp only [Int32.reduceToInt]
              by_cases h : k.toInt < 4
              · have := hb3 h; omega
              · omega
            have big : mq_2 (fun M t N => (∃ b, t = .inl b ∧ mq_X M N) ∨ (∃ v, t = .inr v ∧ mq_X M N)) (some (Sum.inl (Sum.inl (V, (if w < 128 then (0 : Int32) else 1), k + 1)), M3) : mm_O ((Int64 × Int32 × Int32) ⊕ (Int64 × Int32))) (mf_221_j54 V (k + 1) (if w < 128 then (0 : Int32) else 1) N3) (fun r M2_1 t N2_1 => (∃ a2 b2, r = .inl a2 ∧ t = .inl b2 ∧ (a2.1 = b2.1 ∧ a2.2.1 = b2.2.2 ∧ a2.2.2 = b2.2.1 ∧ ((0 ≤ a2.2.2.toInt ∧ a2.2.2.toInt ≤ 5 ∧ (a2.2.1 = 0 ∨ a2.2.1 = 1 ∧ a2.2.2.toInt < 5) ∧ mq_n a2.1 < 2 ^ (7 * a2.2.2.toInt.toNat) ∧ mq_n a2.1 ≤ 4294967295 ∧ mq_W M2_1 N2_1 ∧ mq_le M M2_1 ∧ M2_1.1 3 1 = M.1 3 1) ∨ a2.2.2 = 5 ∧ (a2.2.1 = 1 ∨ a2.2.1 = 0 ∧ 4294967295 < a2.1.toInt) ∧ mq_X M2_1 N2_1)) ∧ (6 - a2.2.2.toInt).toNat < (6 - k.toInt).toNat) ∨ (∃ u v, r = .inr u ∧ t = .inr v ∧ (u.1 = v ∧ u.2 = 0 ∧ 0 ≤ u.1.toInt ∧ u.1.toInt ≤ 4294967295 ∧ mq_W M2_1 N2_1 ∧ mq_le M M2_1 ∧ M2_1.1 3 1 = M.1 3 1 ∨ (u.2 = 1 ∨ u.2 = 0 ∧ 4294967295 < u.1.toInt) ∧ mq_X M2_1 N2_1))) := by
              unfold mf_221_j54
              by_cases d : 4294967295 < V
              · rw [if_pos d]
                rw [Int64.lt_iff_toInt_lt] at d
                simp only [Int64.reduceToInt] at d
                unfold mf_221_j74
                rw [mq_190]
                refine mq_2_ret (.inl ⟨_, _, rfl, rfl, ⟨rfl, rfl, rfl, .inr ⟨k5 d, ?_, mq_W_bad hW3⟩⟩, by dsimp only; omega⟩)
                dsimp only
                by_cases c : w < 128
                · rw [if_pos c]; exact .inr ⟨rfl, d⟩
                · rw [if_neg c]; exact .inl rfl
              · rw [if_neg d]
                rw [Int64.lt_iff_toInt_lt] at d
                simp only [Int64.reduceToInt] at d
                by_cases c : w < 128
                · rw [if_pos c, if_pos rfl]
                  exact mq_2_ret (.inl ⟨_, _, rfl, rfl, ⟨rfl, rfl, rfl, .inl ⟨by dsimp only; omega, by dsimp only; omega, .inl rfl, hb, by dsimp only; omega, hW3, mq_le_trans hl hl3, hs3.trans hs⟩⟩, by dsimp only; omega⟩)
                · rw [if_neg c, if_neg (by decide)]
                  by_cases g : k + 1 = 5
                  · rw [if_pos g]
                    unfold mf_221_j74
                    rw [mq_190]
                    exact mq_2_ret (.inl ⟨_, _, rfl, rfl, ⟨rfl, rfl, rfl, .inr ⟨g, .inl rfl, mq_W_bad hW3⟩⟩, by dsimp only; omega⟩)
                  · rw [if_neg g]
                    have g2 : (k + 1).toInt ≠ 5 := fun q => g (Int32.toInt_inj.mp q)
                    exact mq_2_ret (.inl ⟨_, _, rfl, rfl, ⟨rfl, rfl, rfl, .inl ⟨by dsimp only; omega, by dsimp only; omega, .inr ⟨rfl, by dsimp only; omega⟩, hb, by dsimp only; omega, hW3, mq_le_trans hl hl3, hs3.trans hs⟩⟩, by dsimp only; omega⟩)
            by_cases c : w < 128
            · have c2 : ¬ 127 < w := by rw [Int32.lt_iff_toInt_lt] at c ⊢; simp only [Int32.reduceToInt] at c ⊢; omega
              rw [if_pos c] at big
              rw [if_pos c, if_neg c2]
              exact big
            · have c2 : 127 < w := by rw [Int32.lt_iff_toInt_lt] at c ⊢; simp only [Int32.reduceToInt] at c ⊢; omega
              rw [if_neg c] at big
              rw [if_neg c, if_pos c2]
              exact big
          · intro M3 b N3 hx
            have dd : ∀ V k m, mq_1 (mf_221_j54 V k m N3) (fun t N => (∃ b, t = .inl b ∧ mq_X M3 N) ∨ (∃ v, t = .inr v ∧ mq_X M3 N)) := by
              intro V k m
              unfold mf_221_j54 mf_221_j74
              have d1 : ∀ a : Int64 × Int32 × Int32, mq_1 (mm_B (mf_190 N3) (fun _ M1 => some (Sum.inl (Sum.inl a), M1)) : mm_O ((Int64 × Int32 × Int32) ⊕ Int64)) (fun t N => (∃ b, t = .inl b ∧ mq_X M3 N) ∨ (∃ v, t = .inr v ∧ mq_X M3 N)) := fun a => mq_1_B (mq_xd hx (fun z => md_190 z)) (fun _ _ hx => mq_1_ret (.inl ⟨_, rfl, hx⟩))
              exact mq_1_ite (fun _ => d1 _) (fun _ => mq_1_ite (fun _ => mq_1_ret (.inl ⟨_, rfl, hx⟩)) (fun _ => mq_1_ite (fun _ => d1 _) (fun _ => mq_1_ret (.inl ⟨_, rfl, hx⟩))))
            exact mq_1_ite (fun _ => dd _ _ _) (fun _ => dd _ _ _)
      · rw [if_neg (show ¬ (5 : Int32) < 5 from by decide)]
        have hw : ¬ N2.1 84 7 = 0 := by rw [hx.2.2.2.1]; decide
        refine mq_2_ir (fun _ => ?_) (fun _ => ?_)
        · exact mq_2_ret (.inr ⟨_, _, rfl, rfl, .inr ⟨hm, hx⟩⟩)
        · rw [if_neg hw]
          exact mq_2_ret (.inr ⟨_, _, rfl, rfl, .inr ⟨hm, hx⟩⟩)
    · intro M2 b N2 hx
      exact mq_xd hx (fun z => md_221_L7 z mq_ob_refl)
  · rintro ⟨v, m⟩ M2 b N2 (⟨rfl, h2, h3, h4, hW, hl, hs⟩ | ⟨hm, hx⟩)
    · dsimp only at h2 h3 h4
      subst h2
      unfold mf_125_j61
      rw [if_pos rfl, if_neg (by rw [Int64.lt_iff_toInt_lt]; simp only [Int64.reduceToInt]; omega)]
      exact mq_2_ret ⟨rfl, h3, h4, hW, hl, hs⟩
    · dsimp only at hm
      have ht : mf_125_j61 v m M2 = some (.inr 0, mm_th M2) := by
        unfold mf_125_j61
        rcases hm with rfl | ⟨rfl, h⟩
        · rfl
        · rw [if_pos rfl, if_pos (by rw [Int64.lt_iff_toInt_lt]; simp only [Int64.reduceToInt]; omega)]; rfl
      rw [ht]
      exact mq_2_thr hx
theorem mq_2_BB {α β γ δ ε : Type} {E : mm_M → β → mm_M → Prop} {E2 : mm_M → ε → mm_M → Prop} {P : α → mm_M → β → mm_M → Prop} {R : δ → mm_M → ε → mm_M → Prop} {x : mm_O α} {y : mm_O β} {f : α → γ} {g : γ → mm_M → mm_O δ} {k : β → mm_M → mm_O ε} (h : mq_2 E x y P) (hs : ∀ a M b N, P a M b N → mq_2 E2 (g (f a) M) (k b N) R) (he : ∀ M b N, E M b N → mq_1 (k b N) (fun c N2 => E2 M c N2)) : mq_2 E2 (mm_B (mm_B x (fun a M => some (.inl (f a), M))) g) (mm_B y k) R := by
  obtain ⟨b, N, e, q⟩ := h
  rw [e]
  rcases q with ⟨a, M, e1, q⟩ | ⟨M, e1, q⟩
  · rw [e1]; exact hs _ _ _ _ q
  · rw [e1]
    obtain ⟨c, N2, e2, q2⟩ := he _ _ _ q
    exact ⟨c, N2, e2, .inr ⟨M, rfl, q2⟩⟩
theorem mi_3264 (x : Int32) : x.toInt64.toInt32 = x := Int32.toInt_inj.mp (by rw [Int64.toInt_toInt32, Int32.toInt_toInt64, mi_bm]; have := mq_lo x; have := mq_hi x; omega)
theorem mq_tagd {M N : mm_M} {t : Int32} {l : Int64} (h : mq_W M N) (t0 : 0 ≤ t.toInt) (t1 : t.toInt < 256) (ht : ¬ mm_rem t 4 = 0) (l0 : 0 ≤ l.toInt) (l1 : l.toInt ≤ 256) : mq_2 mq_XE (mm_B (mf_126 t M) (fun r2 M3 => mf_53 l.toInt32 r2 M3)) (mf_222_j77 t (mm_rem t 4) l N) (fun _ M2 _ N2 => mq_W M2 N2 ∧ mq_le M M2) := by
  have el : l.toInt32.toInt = l.toInt := by rw [Int64.toInt_toInt32, mi_bm]; omega
  have fin : ∀ {M N : mm_M} {d : Int64}, mq_W M N → 0 ≤ d.toInt → mq_2 mq_XE (mf_53 l.toInt32 d M) (mf_222_j141 l d N) (fun _ M2 _ N2 => mq_W M2 N2 ∧ mq_le M M2) := by
    intro M N d hW d0
    unfold mf_222_j141
    obtain ⟨b, N2, e, q⟩ := mq_copy1 (fl := 0) hW (by omega : 0 ≤ l.toInt32.toInt) (by omega) d0 (.inl rfl)
    rw [e]
    rcases q with ⟨a, M2, e1, h1, h2, _⟩ | ⟨M2, e1, hx⟩
    · rw [e1]; exact mq_2_ret ⟨h1, h2⟩
    · rw [e1]; exact mq_2_thr hx
  unfold mf_126 mf_222_j77
  rw [if_neg ht, if_pos h.1.2.2.2.2.1]
  have dq : ∀ {M N : mm_M} {d : Int64}, mq_X M N → mq_1 (mf_222_j141 l d N) (fun _ N2 => mq_X M N2) := by
    intro M N d hx
    unfold mf_222_j141
    exact mq_1_B (mq_xd hx (fun z => md_196 z)) (fun _ _ hx => mq_1_ret hx)
  by_cases c : mm_rem t 4 = 1
  · rw [if_pos c, if_pos c]
    show mq_2 _ (mm_B (mm_B (mf_44 M) _) _) _ _
    refine mq_2_BB (mq_next1 h) ?_ (fun M2 b N2 hx => dq hx)
    rintro w M3 b N3 ⟨rfl, w0, w1, hW3, hl3, hr3, hs3⟩
    have e1 : (t / 32).toInt = t.toInt / 32 := mi_div t0 (by decide)
    have e2 : ((t / 32) * 256 + w).toInt = t.toInt / 32 * 256 + w.toInt := by
      rw [mi_add, mi_mul, e1]; simp only [Int32.reduceToInt]; omega
    have e3 : ((t / 32).toInt64 * 256 + w.toInt64).toInt = t.toInt / 32 * 256 + w.toInt := by
      rw [mj_add, mj_mul, Int32.toInt_toInt64, Int32.toInt_toInt64, e1]; simp only [Int64.reduceToInt]; omega
    have e4 : ((t / 32).toInt64 * 256 + w.toInt64) = ((t / 32) * 256 + w).toInt64 := Int64.toInt_inj.mp (by rw [e3, Int32.toInt_toInt64, e2])
    rw [e4]
    refine mq_2_mono (fin hW3 (by rw [Int32.toInt_toInt64, e2]; omega)) ?_ (fun _ _ _ q => q)
    rintro _ M4 _ N4 ⟨q1, q2⟩
    exact ⟨q1, mq_le_trans hl3 q2⟩
  · rw [if_neg c, if_neg c]
    by_cases c2 : mm_rem t 4 = 2
    · rw [if_pos c2, if_pos c2]
      unfold mf_126_j41
      refine mq_2_BB (mq_low1 h (by decide) (by decide)) ?_ (fun M2 b N2 hx => dq hx)
      rintro d M3 b N3 ⟨rfl, d1, hW3, hl3, hr3, hs3⟩
      have d2 : mq_n d < 65536 := d1 (by decide)
      have d3 : d.toInt = mq_n d := mq_n_int (by omega)
      refine mq_2_mono (fin hW3 (by omega)) ?_ (fun _ _ _ q => q)
      rintro _ M4 _ N4 ⟨q1, q2⟩
      exact ⟨q1, mq_le_trans hl3 q2⟩
    · rw [if_neg c2, if_neg c2]
      unfold mf_126_j41
      refine mq_2_BB (mq_low1 h (by decide) (by decide)) ?_ (fun M2 b N2 hx => dq hx)
      rintro d M3 b N3 ⟨rfl, d1, hW3, hl3, hr3, hs3⟩
      have d2 : mq_n d < 4294967296 := d1 (by decide)
      have d3 : d.toInt = mq_n d := mq_n_int (by omega)
      refine mq_2_mono (fin hW3 (by omega)) ?_ (fun _ _ _ q => q)
      rintro _ M4 _ N4 ⟨q1, q2⟩
      exact ⟨q1, mq_le_trans hl3 q2⟩
