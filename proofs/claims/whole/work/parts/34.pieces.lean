/-! FORM 6: PIECES -/
theorem mi_bm64 (x : Int) : x.bmod (2 ^ 64) = (x + 9223372036854775808) % 18446744073709551616 - 9223372036854775808 := by
  rw [Int.bmod_def]
  have : ((2 ^ 64 : Nat) : Int) = 18446744073709551616 := rfl
  rw [this]
  split <;> omega
theorem mj_add (a b : Int64) : (a + b).toInt = (a.toInt + b.toInt + 9223372036854775808) % 18446744073709551616 - 9223372036854775808 := by rw [Int64.toInt_add, mi_bm64]
theorem mj_sub (a b : Int64) : (a - b).toInt = (a.toInt - b.toInt + 9223372036854775808) % 18446744073709551616 - 9223372036854775808 := by rw [Int64.toInt_sub, mi_bm64]
theorem mj_mul (a b : Int64) : (a * b).toInt = (a.toInt * b.toInt + 9223372036854775808) % 18446744073709551616 - 9223372036854775808 := by rw [Int64.toInt_mul, mi_bm64]
theorem mj_hi (a : Int64) : a.toInt < 9223372036854775808 := a.toInt_lt
theorem mj_lo (a : Int64) : -9223372036854775808 ≤ a.toInt := a.le_toInt
theorem mq_2_L4 {α β σ τ : Type} {E : mm_M → β → mm_M → Prop} {Q : α → mm_M → β → mm_M → Prop} {s1 : σ → mm_M → mm_O (σ ⊕ α)} {s2 : τ → mm_M → mm_O (τ ⊕ β)} (I : σ → mm_M → τ → mm_M → Prop) (J : mm_M → τ → mm_M → Prop) (m : σ → mm_M → Nat) (hs : ∀ a M b N, I a M b N → mq_2 (fun M t N => (∃ b, t = .inl b ∧ J M b N) ∨ (∃ v, t = .inr v ∧ E M v N)) (s1 a M) (s2 b N) (fun r M2 t N2 => (∃ a2 b2, r = .inl a2 ∧ t = .inl b2 ∧ I a2 M2 b2 N2 ∧ m a2 M2 < m a M) ∨ (∃ u v, r = .inr u ∧ t = .inr v ∧ Q u M2 v N2) ∨ (∃ u b2, r = .inr u ∧ t = .inl b2 ∧ mq_1 (mm_L s2 b2 N2) (fun v N3 => Q u M2 v N3)) ∨ (∃ a2 v, r = .inl a2 ∧ t = .inr v ∧ mq_1 (mm_L s1 a2 M2) (fun u M3 => Q u M3 v N2)))) (hd : ∀ M b N, J M b N → mq_1 (mm_L s2 b N) (fun v N2 => E M v N2)) {a : σ} {M : mm_M} {b : τ} {N : mm_M} (h : I a M b N) : mq_2 E (mm_L s1 a M) (mm_L s2 b N) Q := by
  generalize hn : m a M = n
  induction n using Nat.strongRecOn generalizing a M b N with
  | ind n ih =>
    obtain ⟨t, N2, e, q⟩ := hs a M b N h
    rw [mm_L_eq s1, mm_L_eq s2, e]
    rcases q with ⟨r, M2, e1, q⟩ | ⟨M2, e1, q⟩
    · rw [e1]
      rcases q with ⟨a2, b2, rfl, rfl, hI, hm⟩ | ⟨u, v, rfl, rfl, hQ⟩ | ⟨u, b2, rfl, rfl, h1⟩ | ⟨a2, v, rfl, rfl, h1⟩
      · exact ih _ (by omega) hI rfl
      · exact ⟨v, N2, rfl, .inl ⟨u, M2, rfl, hQ⟩⟩
      · obtain ⟨v, N3, e3, hQ⟩ := h1
        exact ⟨v, N3, e3, .inl ⟨u, M2, rfl, hQ⟩⟩
      · obtain ⟨u, M3, e3, hQ⟩ := h1
        exact ⟨v, N2, rfl, .inl ⟨u, M3, e3, hQ⟩⟩
    · rw [e1]
      rcases q with ⟨b2, rfl, hJ⟩ | ⟨v, rfl, hE⟩
      · obtain ⟨v, N3, e3, hE⟩ := hd _ _ _ hJ
        exact ⟨v, N3, e3, .inr ⟨M2, rfl, hE⟩⟩
      · exact ⟨v, N2, rfl, .inr ⟨M2, rfl, hE⟩⟩
theorem mi_z (x : Int32) : x + 0 = x := Int32.add_zero x
theorem md_195L {A N : mm_M} {v s : Int64} (hz : mq_Z A) (g : mq_ob A N) : mq_D A (mf_195_L2 v s N) := by
  unfold mf_195_L2
  refine mq_d_L ?_
  unfold mf_195_b2
  refine mq_1_ite (fun _ => mq_1_w hz g (mq_1_ret ⟨⟨_, rfl⟩, g⟩)) (fun _ => mq_1_ret ⟨⟨_, rfl⟩, g⟩)
/-- plain bytes are passed on: a loop of longs -/
theorem mq_pass {M N : mm_M} {n : Int64} (h : mq_W M N) (n0 : 0 ≤ n.toInt) : mq_2 mq_XE (mf_120 n M) (mf_195 n N) (fun _ M2 _ N2 => mq_W M2 N2 ∧ mq_le M M2 ∧ (M2.1 1 2).toInt = (M.1 1 2).toInt + n.toInt ∧ (M2.1 3 1).toInt = (M.1 3 1).toInt + n.toInt) := by
  unfold mf_120 mf_195
  refine mq_2_B (E := mq_XE) (P := fun _ M2 _ N2 => mq_W M2 N2 ∧ mq_le M M2 ∧ (M2.1 1 2).toInt = (M.1 1 2).toInt + n.toInt ∧ (M2.1 3 1).toInt = (M.1 3 1).toInt + n.toInt) ?_ (fun _ _ _ _ q => mq_2_ret q) (fun _ _ _ q => mq_1_ret q)
  unfold mf_120_L2 mf_195_L2
  refine mq_2_L (I := fun a M2 b N2 => a = b ∧ 0 ≤ a.toInt ∧ a.toInt ≤ n.toInt ∧ mq_W M2 N2 ∧ mq_le M M2 ∧ (M2.1 1 2).toInt = (M.1 1 2).toInt + a.toInt ∧ (M2.1 3 1).toInt = (M.1 3 1).toInt + a.toInt) (J := fun M _ N => mq_X M N) (m := fun a _ => (n.toInt - a.toInt).toNat) ?_ ?_ ⟨rfl, by decide, n0, h, mq_le_refl, by simp only [Int64.reduceToInt]; omega, by simp only [Int64.reduceToInt]; omega⟩
  · rintro k M2 b N2 ⟨rfl, k0, k1, hW, hl, hr, hs⟩
    unfold mf_120_b2 mf_195_b2
    by_cases c : k < n
    · rw [if_pos c, if_pos c, if_pos hW.1.2.2.2.2.1]
      rw [Int64.lt_iff_toInt_lt] at c
      have := mj_hi n
      have ek : (k + 1).toInt = k.toInt + 1 := by rw [mj_add]; simp only [Int64.reduceToInt]; omega
      refine mq_2_B (mq_next1 hW) ?_ ?_
      · rintro v M3 b N3 ⟨rfl, v0, v1, hW3, hl3, hr3, hs3⟩
        rw [if_pos hW3.1.2.2.2.2.1]
        refine mq_2_B (mq_2_K (mq_putp1 hW3 v0 v1) mk_52 mk_194) ?_ ?_
        · rintro _ M4 b N4 ⟨⟨rfl, hW4, hl4, hr4, hs4⟩, k1, k2⟩
          rw [if_neg (by decide)]
          exact mq_2_ret (.inl ⟨_, _, rfl, rfl, ⟨rfl, by omega, by omega, hW4, mq_le_trans hl (mq_le_trans hl3 hl4), by omega, by rw [hs4, hs3]; omega⟩, by omega⟩)
        · rintro M4 b N4 ⟨⟨rfl, hx⟩, k1, k2⟩
          rw [if_pos rfl]
          refine mq_1_ret (.inl ⟨_, rfl, mq_X_ob hx (mq_ob_same mq_ob_refl ?_)⟩)
          rw [mi_z, (k2 84 8 rfl).1]
      · intro M3 b N3 hx
        rw [if_neg (by rw [hx.2.2.2.1]; decide)]
        exact mq_1_ret (.inl ⟨_, rfl, mq_X_ob hx (mq_ob_same mq_ob_refl (mi_z _))⟩)
    · rw [if_neg c, if_neg c]
      rw [Int64.lt_iff_toInt_lt] at c
      exact mq_2_ret (.inr ⟨_, _, rfl, rfl, hW, hl, by omega, by omega⟩)
  · intro M2 b N2 hx
    exact mq_xd hx (fun z => md_195L z mq_ob_refl)
/-- a number that grows by bytes of 255 -/
theorem mq_grownL {M N : mm_M} {v m b : Int32} (h : mq_W M N) (v0 : 0 ≤ v.toInt) (v1 : v.toInt ≤ 16384) (hm : m = 0 ∧ ¬ b = 255 ∨ m = 1 ∧ b = 255) : mq_2 mq_XE (mf_119_L17 (v, m, 0) M) (mf_217_L16 (v, b) N) (fun r M2 t N2 => r = t ∧ 0 ≤ r.toInt ∧ r.toInt ≤ 16384 ∧ mq_W M2 N2 ∧ mq_le M M2 ∧ M2.1 3 1 = M.1 3 1) := by
  unfold mf_119_L17 mf_217_L16
  refine mq_2_L (I := fun a M2 b N2 => a.1 = b.1 ∧ 0 ≤ a.1.toInt ∧ a.1.toInt ≤ 16384 ∧ (a.2.1 = 0 ∧ ¬ b.2 = 255 ∨ a.2.1 = 1 ∧ b.2 = 255) ∧ 0 ≤ a.2.2.toInt ∧ a.2.2.toInt ≤ (M2.1 1 2).toInt ∧ mq_W M2 N2 ∧ mq_le M M2 ∧ M2.1 3 1 = M.1 3 1) (J := fun M _ N => mq_X M N) (m := fun a M2 => 2 * ((M2.1 1 1).toInt - (M2.1 1 2).toInt).toNat) ?_ ?_ ⟨rfl, v0, v1, hm, (by decide : 0 ≤ (0 : Int32).toInt), ?_, h, mq_le_refl, rfl⟩
  · rintro ⟨v, m, k⟩ M2 ⟨b1, b2⟩ N2 ⟨h1, h2, h3, h4, h5, h6, hW, hl, hs⟩
    dsimp only at h1 h2 h3 h4 h5 h6
    subst h1
    obtain ⟨l1, l2, l3, l4⟩ := mq_W_lim hW
    unfold mf_119_b17 mf_217_b16
    dsimp only
    rw [if_pos (show k < 1000000 from by rw [Int32.lt_iff_toInt_lt]; simp only [Int32.reduceToInt]; omega)]
    have ek : (k + 1).toInt = k.toInt + 1 := by rw [mi_add]; simp only [Int32.reduceToInt]; omega
    rcases h4 with ⟨rfl, hb⟩ | ⟨rfl, rfl⟩
    · rw [if_pos rfl, if_neg hb]
      exact mq_2_ret (.inr ⟨_, _, rfl, rfl, rfl, h2, h3, hW, hl, hs⟩)
    · rw [if_neg (by decide), if_pos rfl, if_pos hW.1.2.2.2.2.1]
      refine mq_2_B (mq_next1 hW) ?_ ?_
      · rintro w M3 b N3 ⟨rfl, w0, w1, hW3, hl3, hr3, hs3⟩
        have ev : (v + w).toInt = v.toInt + w.toInt := by rw [mi_add]; omega
        have t1 := hl3.2.1
        have l5 := mq_W_lim hW3
        rw [t1] at l5
        unfold mf_119_j54
        by_cases c : 16384 < v + w
        · rw [if_pos c, if_pos c]
          show mq_2 _ (some (Sum.inr 0, mm_th M3)) _ _
          refine mq_2_thr (.inl ⟨_, rfl, hW3.1.1, hW3.1.2.1, hW3.1.2.2.1, rfl, hW3.1.2.2.2.2.2.1, ?_⟩)
          show (M3.1 1 2).toInt ≤ (M3.1 1 1).toInt
          rw [t1]
          omega
        · rw [if_neg c, if_neg c]
          rw [Int32.lt_iff_toInt_lt] at c
          simp only [Int32.reduceToInt] at c
          have e27 : ∀ M, mf_27 0 M = some (.inl (), M) := fun _ => rfl
          rw [e27]
          show mq_2 _ (if w = 255 then _ else _) _ _
          by_cases d : w = 255
          · rw [if_pos d]
            exact mq_2_ret (.inl ⟨_, _, rfl, rfl, ⟨rfl, by dsimp only; omega, by dsimp only; omega, .inr ⟨rfl, d⟩, by dsimp only; omega, by dsimp only; omega, hW3, mq_le_trans hl hl3, hs3.trans hs⟩, by rw [t1]; omega⟩)
          · rw [if_neg d]
            exact mq_2_ret (.inl ⟨_, _, rfl, rfl, ⟨rfl, by dsimp only; omega, by dsimp only; omega, .inl ⟨rfl, d⟩, by dsimp only; omega, by dsimp only; omega, hW3, mq_le_trans hl hl3, hs3.trans hs⟩, by rw [t1]; omega⟩)
      · intro M3 b N3 hx
        refine mq_1_ite (fun _ => ?_) (fun _ => mq_1_ret (.inl ⟨_, rfl, hx⟩))
        exact mq_1_B (mq_xd hx (fun z => md_190 z)) (fun _ _ hx => mq_1_ret (.inl ⟨_, rfl, hx⟩))
  · intro M2 b N2 hx
    exact mq_xd hx (fun z => md_217_L16 z mq_ob_refl)
  · exact (mq_W_lim h).1
theorem mq_grown {M N : mm_M} {v : Int32} (h : mq_W M N) (v0 : 0 ≤ v.toInt) (v1 : v.toInt ≤ 15) : mq_2 mq_XE (mf_119 v M) (mf_217 v N) (fun r M2 t N2 => r = t ∧ 0 ≤ r.toInt ∧ r.toInt ≤ 16384 ∧ mq_W M2 N2 ∧ mq_le M M2 ∧ M2.1 3 1 = M.1 3 1) := by
  unfold mf_119 mf_217
  by_cases c : v = 15
  · rw [if_pos c, if_pos c]
    exact mq_2_B (mq_grownL h v0 (by omega) (.inr ⟨rfl, rfl⟩)) (fun _ _ _ _ q => mq_2_ret q) (fun _ _ _ q => mq_1_ret q)
  · rw [if_neg c, if_neg c]
    exact mq_2_B (mq_grownL h v0 (by omega) (.inl ⟨rfl, by decide⟩)) (fun _ _ _ _ q => mq_2_ret q) (fun _ _ _ q => mq_1_ret q)
theorem mi_shr_nat {x : Int32} {k : Int32} (h0 : 0 ≤ x.toInt) (k0 : 0 ≤ k.toInt) (k1 : k.toInt < 32) : (mm_shr x k).toInt = x.toInt / ((2 ^ k.toInt.toNat : Nat) : Int) := by
  have e : k = Int32.ofNat k.toInt.toNat := (Int32.ofNat_toNatClampNeg k (Int32.le_iff_toInt_le.mpr k0)).symm
  have hs : ∀ j : Fin 32, ((Int32.ofNat j.val) &&& 31).toBitVec.smod 32 = BitVec.ofNat 32 j.val := by decide
  have h := hs ⟨k.toInt.toNat, by omega⟩
  dsimp only at h
  rw [← e] at h
  have hb : (mm_shr x k).toBitVec = x.toBitVec.sshiftRight k.toInt.toNat := by
    unfold mm_shr
    rw [Int32.toBitVec_shiftRight, h]
    show x.toBitVec.sshiftRight (BitVec.ofNat 32 k.toInt.toNat).toNat = _
    rw [BitVec.toNat_ofNat, Nat.mod_eq_of_lt (by omega)]
  show (mm_shr x k).toBitVec.toInt = x.toBitVec.toInt / _
  rw [hb, BitVec.toInt_sshiftRight, Int.shiftRight_eq_div_pow]
theorem mi_shr4 {w : Int32} (w0 : 0 ≤ w.toInt) (w1 : w.toInt < 256) : 0 ≤ (mm_shr w 4).toInt ∧ (mm_shr w 4).toInt ≤ 15 := by
  rw [mi_shr_nat w0 (by decide) (by decide)]
  have : ((2 ^ (4 : Int32).toInt.toNat : Nat) : Int) = 16 := rfl
  rw [this]
  omega
theorem mi_and15 (w : Int32) : 0 ≤ (w &&& 15).toInt ∧ (w &&& 15).toInt ≤ 15 := by
  have h := mi_and w 4 (by decide)
  have h2 : w &&& 15 = w &&& Int32.ofNat (2 ^ 4 - 1) := rfl
  have h3 : ((2 ^ 4 : Nat) : Int) = 16 := rfl
  rw [h2, h, h3]
  omega
theorem mq_pieces_d {M N : mm_M} {to fl t : Int32} (hx : mq_X M N) : mq_1 (if N.1 84 5 = to then some (.inl (.inl (0 : Int32)), N) else mm_B (mf_193 2 N) (fun r6 M7 => if M7.1 84 7 = 0 then (if r6 = (0 : Int64) then mf_218_j83 to fl 1 t r6 M7 else if (M7.1 84 4 - fl).toInt64 < r6 then mf_218_j83 to fl 1 t r6 M7 else mf_218_j87 to fl 1 t r6 M7) else mf_218_j87 to fl 1 t r6 M7)) (fun t N => (∃ b, t = .inl b ∧ mq_X M N) ∨ (∃ v, t = .inr v ∧ mq_X M N)) := by
  refine mq_1_ite (fun _ => mq_1_ret (.inl ⟨_, rfl, hx⟩)) (fun _ => ?_)
  refine mq_1_B (mq_xd hx (fun z => md_193 z)) (fun _ _ hx => ?_)
  rw [if_neg (by rw [hx.2.2.2.1]; decide)]
  unfold mf_218_j87 mf_218_j109
  rw [if_neg (by rw [hx.2.2.2.1]; decide)]
  exact mq_1_B (mq_xd hx (fun z => md_196 z)) (fun _ _ hx => mq_1_ret (.inl ⟨_, rfl, hx⟩))
theorem mq_191_end {M N : mm_M} (h : mq_W M N) (hr : M.1 1 2 = M.1 1 1) : mf_191 N = some (.inl 0, mm_pi N 84 7 1) := by
  refine mq_191_bad h.1.2.2.2.2.1 ?_
  rw [← h.1.2.2.1.1, ← h.1.1.1, hr]
  omega
theorem mq_W_bad {M N : mm_M} (h : mq_W M N) : mq_X M (mm_pi N 84 7 1) := by
  refine ⟨h.1.1, h.1.2.1, h.1.2.2.1, rfl, h.1.2.2.2.2.2.1, ?_⟩
  have := mq_W_lim h
  omega
theorem mq_X_th {M N : mm_M} (h : mq_X M N) : mq_X (mm_th M) N := h
/-- at the tape's end the reference finds it wrong -/
theorem mq_low_end {M N : mm_M} {n : Int32} (h : mq_W M N) (hr : M.1 1 2 = M.1 1 1) (hn : 0 < n.toInt) : mq_1 (mf_193 n N) (fun _ N2 => mq_X M N2) := by
  unfold mf_193
  refine mq_1_B (P := fun _ N2 => mq_X M N2) ?_ (fun _ _ q => mq_1_ret q)
  unfold mf_193_L5
  rw [mm_L_eq]
  have e : mf_193_b5 n 0 0 N = some (.inl (.inl (((0 : Int64) ||| (mm_lshl (0 : Int32).toInt64 ((8 : Int32) * 0))), 0 + 1)), mm_pi N 84 7 1) := by
    unfold mf_193_b5
    rw [if_pos (show (0 : Int32) < n from by rw [Int32.lt_iff_toInt_lt]; exact hn), mq_191_end h hr]
    rfl
  show mq_1 (mm_B (mf_193_b5 n 0 0 N) _) _
  rw [e]
  exact mq_xd (mq_W_bad h) (fun z => md_193L z mq_ob_refl)
/-- pieces, up to `to`: to the end, or (where the tape is too short) to the tape's end -/
theorem mq_pieces {M N : mm_M} {to fl : Int32} (h : mq_W M N) (f0 : 0 ≤ fl.toInt) (f1 : fl.toInt ≤ (M.1 3 1).toInt) (ht : to = M.1 1 3 ∨ (M.1 1 3 = M.1 1 1 ∧ (M.1 1 1).toInt < to.toInt)) : mq_2 mq_XE (mf_118 fl M) (mf_218 to fl N) (fun _ M2 _ N2 => mq_le M M2 ∧ M2.1 1 2 = M2.1 1 3 ∧ (mq_W M2 N2 ∧ to = M.1 1 3 ∨ mq_X M2 N2 ∧ M2.1 1 2 = M2.1 1 1 ∧ to ≠ M.1 1 3)) := by
  unfold mf_118 mf_218
  refine mq_2_B (E := mq_XE) (P := fun _ M2 _ N2 => mq_le M M2 ∧ M2.1 1 2 = M2.1 1 3 ∧ (mq_W M2 N2 ∧ to = M.1 1 3 ∨ mq_X M2 N2 ∧ M2.1 1 2 = M2.1 1 1 ∧ to ≠ M.1 1 3)) ?_ ?_ (fun _ _ _ q => mq_1_ret q)
  · unfold mf_118_L2 mf_218_L2
    refine mq_2_L4 (I := fun a M2 b N2 => b = 1 ∧ 0 ≤ a.toInt ∧ a.toInt ≤ (M2.1 1 2).toInt ∧ mq_W M2 N2 ∧ mq_le M M2 ∧ fl.toInt ≤ (M2.1 3 1).toInt) (J := fun M _ N => mq_X M N) (m := fun a M2 => ((M2.1 1 1).toInt - (M2.1 1 2).toInt).toNat) ?_ ?_ ⟨rfl, by decide, (mq_W_lim h).1, h, mq_le_refl, f1⟩
    · rintro k M2 b N2 ⟨rfl, k0, k1, hW, hl, hs⟩
      have hl0 := hl
      obtain ⟨l1, l2, l3, l4⟩ := mq_W_lim hW
      unfold mf_118_b2 mf_218_b2
      rw [if_pos (show k < 1000000 from by rw [Int32.lt_iff_toInt_lt]; simp only [Int32.reduceToInt]; omega), if_neg (by decide), if_pos hW.1.2.2.2.2.1]
      have ek : (k + 1).toInt = k.toInt + 1 := by rw [mi_add]; simp only [Int32.reduceToInt]; omega
      refine mq_2_B (mq_next1 hW) ?_ ?_
      · rintro w M3 b N3 ⟨rfl, w0, w1, hW3, hl3, hr3, hs3⟩
        obtain ⟨sh0, sh1⟩ := mi_shr4 w0 w1
        refine mq_2_B (mq_grown hW3 sh0 sh1) ?_ ?_
        · rintro n M4 b N4 ⟨rfl, n0, n1, hW4, hl4, hs4⟩
          refine mq_2_B (mq_pass hW4 (by rw [Int32.toInt_toInt64]; exact n0)) ?_ ?_
          · rintro _ M5 b5 N5 ⟨hW5, hl5, hr5, hs5⟩
            have hl : mq_le M M5 := mq_le_trans hl (mq_le_trans hl3 (mq_le_trans hl4 hl5))
            have q4 := hl4.1
            have q5 := hl5.1
            obtain ⟨p1, p2, p3, p4⟩ := mq_W_lim hW5
            have eV : N5.1 84 5 = M5.1 1 2 := hW5.1.2.2.1.1.symm
            unfold mf_43
            rw [eV]
            have hs6 : fl.toInt ≤ (M5.1 3 1).toInt := by rw [Int32.toInt_toInt64] at hs5; rw [hs5, hs4, hs3]; omega
            by_cases c : M5.1 1 2 < M5.1 1 3
            · rw [if_pos c]
              have c' := c
              rw [Int32.lt_iff_toInt_lt] at c
              have ne : ¬ M5.1 1 2 = to := by
                intro q
                rcases ht with t | ⟨t1, t2⟩
                · rw [t, ← hl.2.2] at q; rw [q] at c; omega
                · rw [q, hl.2.2, t1] at c; omega
              rw [if_neg ne]
              show mq_2 _ (mm_B (mf_47 2 M5) _) _ _
              refine mq_2_B (mq_low1 hW5 (by decide) (by decide)) ?_ ?_
              · rintro d M6 b6 N6 ⟨rfl, d1, hW6, hl6, hr6, hs6'⟩
                have d2 : mq_n d < 65536 := d1 (by decide)
                have d9 := congrArg Int32.toInt hs6'
                simp only [Int32.reduceToInt] at hr6
                have d3 : d.toInt = mq_n d := mq_n_int (by omega)
                have d4 : d.toInt32.toInt = d.toInt := by rw [Int64.toInt_toInt32, mi_bm]; omega
                obtain ⟨u1, u2, u3, u4⟩ := hW6.1.2.1
                rw [if_pos hW6.1.2.2.2.2.1]
                have hl' := mq_le_trans hl hl6
                have es : (M6.1 3 1 - fl).toInt = (M6.1 3 1).toInt - fl.toInt := by rw [mi_sub]; omega
                have bad : mq_2 (fun M t N => (∃ b, t = .inl b ∧ mq_X M N) ∨ (∃ v, t = .inr v ∧ mq_X M N)) (mf_118_j74 fl k w d.toInt32 1 M6) (mf_218_j83 to fl 1 w d N6) (fun r M2_1 t N2_1 => (∃ a2 b2, r = .inl a2 ∧ t = .inl b2 ∧ (b2 = 1 ∧ 0 ≤ a2.toInt ∧ a2.toInt ≤ (M2_1.1 1 2).toInt ∧ mq_W M2_1 N2_1 ∧ mq_le M M2_1 ∧ fl.toInt ≤ (M2_1.1 3 1).toInt) ∧ ((M2_1.1 1 1).toInt - (M2_1.1 1 2).toInt).toNat < ((M2.1 1 1).toInt - (M2.1 1 2).toInt).toNat) ∨ (∃ u v, r = .inr u ∧ t = .inr v ∧ (mq_le M M2_1 ∧ M2_1.1 1 2 = M2_1.1 1 3 ∧ (mq_W M2_1 N2_1 ∧ to = M.1 1 3 ∨ mq_X M2_1 N2_1 ∧ M2_1.1 1 2 = M2_1.1 1 1 ∧ to ≠ M.1 1 3))) ∨ (∃ u b2, r = .inr u ∧ t = .inl b2 ∧ mq_1 (mm_L (fun s M => mf_218_b2 to fl s M) b2 N2_1) (fun v N3 => mq_le M M2_1 ∧ M2_1.1 1 2 = M2_1.1 1 3 ∧ (mq_W M2_1 N3 ∧ to = M.1 1 3 ∨ mq_X M2_1 N3 ∧ M2_1.1 1 2 = M2_1.1 1 1 ∧ to ≠ M.1 1 3))) ∨ (∃ a2 v, r = .inl a2 ∧ t = .inr v ∧ mq_1 (mm_L (fun s M => mf_118_b2 fl s M) a2 M2_1) (fun u M3 => mq_le M M3 ∧ M3.1 1 2 = M3.1 1 3 ∧ (mq_W M3 N2_1 ∧ to = M.1 1 3 ∨ mq_X M3 N2_1 ∧ M3.1 1 2 = M3.1 1 1 ∧ to ≠ M.1 1 3)))) := by
                  have el : mf_118_j74 fl k w d.toInt32 1 M6 = some (.inr 0, mm_th M6) := rfl
                  rw [el]
                  unfold mf_218_j83
                  have hx := mq_W_bad hW6
                  have e190 : mf_190 N6 = some (.inl (), mm_pi N6 84 7 1) := rfl
                  rw [e190]
                  show mq_2 _ _ (mf_218_j87 to fl 1 w d (mm_pi N6 84 7 1)) _
                  unfold mf_218_j87 mf_218_j109
                  rw [if_neg (show ¬ (mm_pi N6 84 7 1).1 84 7 = 0 from (by decide : ¬ (1 : Int32) = 0))]
                  have hd := mq_xd hx (fun z => md_196 (v := 0) (d := d) (f := fl) z)
                  obtain ⟨b, N7, e7, h7⟩ := hd
                  rw [e7]
                  exact mq_2_thr (.inl ⟨_, rfl, h7⟩)
                by_cases z : d.toInt = 0
                · have z1 : d = 0 := Int64.toInt_inj.mp (by rw [z]; rfl)
                  have z2 : d.toInt32 = 0 := Int32.toInt_inj.mp (by rw [d4, z]; rfl)
                  rw [if_pos z2, if_pos z1]
                  exact bad
                · have z1 : ¬ d = 0 := by intro q; rw [q] at z; exact z rfl
                  have z2 : ¬ d.toInt32 = 0 := by intro q; rw [q] at d4; exact z d4.symm
                  rw [if_neg z2, if_neg z1, ← u1]
                  by_cases y : (M6.1 3 1).toInt - fl.toInt < d.toInt
                  · rw [if_pos (show M6.1 3 1 - fl < d.toInt32 from by rw [Int32.lt_iff_toInt_lt]; omega), if_pos (show (M6.1 3 1 - fl).toInt64 < d from by rw [Int64.lt_iff_toInt_lt, Int32.toInt_toInt64]; omega)]
                    exact bad
                  · rw [if_neg (show ¬ M6.1 3 1 - fl < d.toInt32 from by rw [Int32.lt_iff_toInt_lt]; omega), if_neg (show ¬ (M6.1 3 1 - fl).toInt64 < d from by rw [Int64.lt_iff_toInt_lt, Int32.toInt_toInt64]; omega)]
                    unfold mf_118_j74 mf_218_j87
                    rw [if_pos hW6.1.2.2.2.2.1]
                    have e27 : mf_27 0 M6 = some (.inl (), M6) := rfl
                    rw [e27]
                    show mq_2 _ (mm_B (mf_119 (w &&& 15) M6) _) _ _
                    obtain ⟨a0, a1⟩ := mi_and15 w
                    refine mq_2_B (mq_grown hW6 a0 a1) ?_ ?_
                    · rintro n M7 b N7 ⟨rfl, n0, n1, hW7, hl7, hs7⟩
                      have e4 : (n + 4).toInt = n.toInt + 4 := by rw [mi_add]; simp only [Int32.reduceToInt]; omega
                      have e5 : (4 : Int32) + n = n + 4 := Int32.add_comm _ _
                      have e6 : d.toInt32.toInt64 = d := Int64.toInt_inj.mp (by rw [Int32.toInt_toInt64, d4])
                      unfold mf_218_j109
                      rw [e5, e6]
                      refine mq_2_B (mq_copy1 hW7 (by omega) (by omega) (by omega) (.inr ⟨f0, by omega, by rw [hs7]; omega⟩)) ?_ ?_
                      · rintro _ M8 _ N8 ⟨hW8, hl8, hr8, hs8⟩
                        have hl9 : mq_le M M8 := mq_le_trans hl' (mq_le_trans hl7 hl8)
                        have q6 := hl7.1
                        obtain ⟨r1, r2, r3, r4⟩ := mq_W_lim hW8
                        have t2 : M8.1 1 1 = M2.1 1 1 := by rw [hl9.2.1, hl0.2.1]
                        refine mq_2_ret (.inl ⟨_, _, rfl, rfl, ⟨rfl, by omega, by omega, hW8, hl9, by rw [hs8, hs7]; omega⟩, ?_⟩)
                        rw [t2] at r3 ⊢
                        omega
                      · intro M8 b N8 hx
                        exact mq_1_ret (.inl ⟨_, rfl, hx⟩)
                    · intro M7 b N7 hx
                      unfold mf_218_j109
                      exact mq_1_B (mq_xd hx (fun z => md_196 z)) (fun _ _ hx => mq_1_ret (.inl ⟨_, rfl, hx⟩))
              · intro M6 b N6 hx
                rw [if_neg (by rw [hx.2.2.2.1]; decide)]
                unfold mf_218_j87 mf_218_j109
                rw [if_neg (by rw [hx.2.2.2.1]; decide)]
                exact mq_1_B (mq_xd hx (fun z => md_196 z)) (fun _ _ hx => mq_1_ret (.inl ⟨_, rfl, hx⟩))
            · rw [if_neg c]
              rw [Int32.lt_iff_toInt_lt] at c
              have er : M5.1 1 2 = M5.1 1 3 := Int32.toInt_inj.mp (by omega)
              show mq_2 _ (some (Sum.inl (Sum.inr (Sum.inl ())), M5)) _ _
              rcases ht with t | ⟨t1, t2⟩
              · rw [if_pos (by rw [er, hl.2.2, t])]
                refine mq_2_ret (.inr (.inr (.inl ⟨_, _, rfl, rfl, ?_⟩)))
                rw [mm_L_eq, if_pos rfl]
                exact mq_1_ret ⟨hl, er, .inl ⟨hW5, t⟩⟩
              · have e11 : M5.1 1 2 = M5.1 1 1 := by rw [er, hl.2.2, t1, hl.2.1]
                rw [if_neg (by intro q; rw [← q, e11, hl.2.1] at t2; omega)]
                refine mq_2_Br (mq_low_end hW5 e11 (by decide)) (fun b6 N6 hx => ?_)
                rw [if_neg (by rw [hx.2.2.2.1]; decide)]
                unfold mf_218_j87 mf_218_j109
                rw [if_neg (by rw [hx.2.2.2.1]; decide)]
                refine mq_2_Br (mq_xd hx (fun z => md_196 z)) (fun b7 N7 hx => ?_)
                refine mq_2_ret (.inr (.inr (.inl ⟨_, _, rfl, rfl, ?_⟩)))
                exact mq_1_mono (mq_xd hx (fun z => md_218_L2 z mq_ob_refl)) (fun _ _ hx => ⟨hl, er, .inr ⟨hx, e11, fun q => by rw [q, t1] at t2; omega⟩⟩)
          · intro M5 b N5 hx
            exact mq_pieces_d hx
        · intro M4 b N4 hx
          refine mq_1_B (mq_xd hx (fun z => md_195 z)) (fun _ _ hx => ?_)
          exact mq_pieces_d hx
      · intro M3 b N3 hx
        refine mq_1_B (mq_xd hx (fun z => md_217 z)) (fun _ _ hx => ?_)
        refine mq_1_B (mq_xd hx (fun z => md_195 z)) (fun _ _ hx => ?_)
        exact mq_pieces_d hx
    · intro M2 b N2 hx
      exact mq_xd hx (fun z => md_218_L2 z mq_ob_refl)
  · rintro r M2 b N2 q
    cases r with
    | inl u => exact mq_2_ret q
    | inr u => exact mq_2_ret q
