/-! FORM 7: FRAME -/
theorem mq_xx_r {q m : Nat} {v1 v2 : Int32} {N : mm_M} (h0 : 0 ≤ v1.toInt) (h2 : v1.toInt ≤ v2.toInt) (hb : v2.toInt ≤ 100000) (hm : v2.toInt ≤ m) : ∃ b, mf_188 q m v1 v2 N = some (.inl b, N) := by
  obtain ⟨b, N2, e, ⟨a, M2, e1, h, hM, hN⟩ | ⟨M2, e1, h⟩⟩ := mq_xx (p := q) (n := m) (q := q) (m := m) (M := N) (N := N) h0 h2 hb hm hm (fun _ _ _ => rfl)
  · exact ⟨b, by rw [e, hN]⟩
  · exact h.elim
theorem mq_crc_r {q m : Nat} {v1 v2 : Int32} {N : mm_M} (h0 : 0 ≤ v1.toInt) (hm : v2.toInt ≤ m) : ∃ b, mf_182 q m v1 v2 N = some (.inl b, N) := by
  obtain ⟨b, N2, e, ⟨a, M2, e1, h, hM, hN⟩ | ⟨M2, e1, h⟩⟩ := mq_crc (p := q) (n := m) (q := q) (m := m) (M := N) (N := N) h0 hm hm (fun _ _ _ => rfl)
  · exact ⟨b, by rw [e, hN]⟩
  · exact h.elim
theorem mq_want {γ δ : Type} {E2 : mm_M → δ → mm_M → Prop} {R : γ → mm_M → δ → mm_M → Prop} {M N : mm_M} {c : Int32} {G : mm_M → mm_O γ} {H : mm_M → mm_O δ} (h : mq_W M N) (hs : ∀ M2 N2, mq_W M2 N2 → mq_le M M2 → M2.1 3 1 = M.1 3 1 → mq_2 E2 (G M2) (H N2) R) (he : ∀ M N, mq_X M N → mq_1 (H N) (fun c N2 => E2 M c N2)) : mq_2 E2 (mm_B (mf_44 M) (fun r M2 => if r = c then mm_B (mf_27 0 M2) (fun _ M1 => G M1) else mm_B (mf_27 1 M2) (fun _ M1 => G M1))) (mm_B (mf_192 c N) (fun _ N1 => H N1)) R := by
  have e : mm_B (mf_192 c N) (fun _ N1 => H N1) = mm_B (mf_191 N) (fun r1 M2 => mm_B (if (M2.1 84 7) = 0 then (if r1 = c then (some (.inl (), M2)) else (mm_B (mf_190 M2) (fun _ M3 => some (.inl (), M3)))) else (some (.inl (), M2)) : mm_O Unit) (fun _ N1 => H N1)) := by
    unfold mf_192
    match mf_191 N with
    | none => rfl
    | some (.inl a, N) => rfl
    | some (.inr x, N) => rfl
  rw [e]
  refine mq_2_B (mq_next1 h) ?_ ?_
  · rintro v M2 b N2 ⟨rfl, v0, v1, hW, hl, hr, h3⟩
    rw [if_pos hW.1.2.2.2.2.1]
    by_cases d : v = c
    · rw [if_pos d, if_pos d, mq_27]
      exact hs M2 N2 hW hl h3
    · rw [if_neg d, if_neg d, mq_27t, mq_190]
      show mq_2 E2 (some (Sum.inr 0, mm_th M2)) (H (mm_pi N2 84 7 1)) R
      obtain ⟨x, N3, e3, q⟩ := he (mm_th M2) _ (mq_X_th (mq_W_bad hW))
      rw [e3]
      exact mq_2_thr q
  · intro M2 b N2 hx
    rw [if_neg (by rw [hx.2.2.2.1]; decide)]
    exact he M2 N2 hx
theorem md_219_j249 {A M : mm_M} {v2 : Int32} (hz : mq_Z A) (g : mq_ob A M) : mq_D A (mf_219_j249 v2 M) := by
  unfold mf_219_j249
  refine mq_d_ite (fun _ => mq_d_ret g) (fun _ => ?_)
  have z := mq_Z_ob hz g
  obtain ⟨b, e⟩ := mq_xx_r (q := 86) (m := 16384) (v1 := 0) (v2 := M.1 84 4) (N := M) (by decide) z.2.2.2.1 (by have := z.2.2.2.2.1; omega) z.2.2.2.2.1
  rw [e]
  show mq_D A (mm_B (mf_213 b M) _)
  exact mq_d_B (mq_d_c hz g (fun z => md_213 z)) (fun _ _ g => mq_d_ret g)
theorem md_219_j220 {A M : mm_M} {v2 : Int32} {v5 : Int64} (hz : mq_Z A) (g : mq_ob A M) : mq_D A (mf_219_j220 v2 v5 M) := by
  unfold mf_219_j220
  exact mq_d_w hz g (md_219_j249 hz g)
theorem md_219_j145 {A M : mm_M} {v2 v4 s0 : Int32} {v5 : Int64} (hz : mq_Z A) (g : mq_ob A M) : mq_D A (mf_219_j145 v2 v4 v5 s0 M) := by
  unfold mf_219_j145
  exact mq_d_B (mq_d_c hz g (fun z => md_192 z)) (fun _ _ g => mq_d_B (md_219_L156 hz g) (fun _ _ g => md_219_j220 hz g))
theorem md_219_j113 {A M : mm_M} {v1 v2 v4 : Int32} {s0 : Int64} (hz : mq_Z A) (g : mq_ob A M) : mq_D A (mf_219_j113 v1 v2 v4 s0 M) := by
  unfold mf_219_j113
  exact mq_d_w hz g (md_219_j145 hz g)
theorem md_219_j96 {A M : mm_M} {v1 v2 v4 : Int32} (hz : mq_Z A) (g : mq_ob A M) : mq_D A (mf_219_j96 v1 v2 v4 M) := by
  unfold mf_219_j96
  exact mq_d_ite (fun _ => md_219_j113 hz g) (fun _ => mq_d_B (mq_d_c hz g (fun z => md_193 z)) (fun _ _ g => md_219_j113 hz g))
theorem md_219_j58 {A M : mm_M} {v1 v2 : Int32} (hz : mq_Z A) (g : mq_ob A M) : mq_D A (mf_219_j58 v1 v2 M) := by
  unfold mf_219_j58
  exact mq_d_B (mq_d_c hz g (fun z => md_191 z)) (fun _ _ g => mq_d_w hz g (md_219_j96 hz g))
/-- a sum of four bytes is read and compared -/
theorem mq_sumis {M N : mm_M} {x : Int32} (h : mq_W M N) : mq_2 mq_XE (mm_B (mf_47 4 M) (fun r M3 => if r.toInt32 = x then mm_B (mf_27 0 M3) (fun _ M1 => some (.inl (), M1)) else mm_B (mf_27 1 M3) (fun _ M1 => some (.inl (), M1))) : mm_O Unit) (mf_213 x N) (fun _ M2 _ N2 => mq_W M2 N2 ∧ mq_le M M2 ∧ M2.1 3 1 = M.1 3 1) := by
  unfold mf_213
  refine mq_2_B (mq_low1 h (by decide) (by decide)) ?_ ?_
  · rintro d M3 b N3 ⟨rfl, d1, hW3, hl3, hr3, hs3⟩
    rw [if_pos hW3.1.2.2.2.2.1]
    by_cases c : d.toInt32 = x
    · rw [if_pos c, if_pos c, mq_27]; exact mq_2_ret ⟨hW3, hl3, hs3⟩
    · rw [if_neg c, if_neg c, mq_27t, mq_190]
      exact mq_2_thr (mq_X_th (mq_W_bad hW3))
  · intro M3 b N3 hx
    rw [if_neg (by rw [hx.2.2.2.1]; decide)]
    exact mq_1_ret hx
theorem mj_and31 {v : Int64} (h0 : 0 ≤ v.toInt) (h1 : v.toInt < 4294967296) : (v &&& 2147483647).toInt = if v.toInt < 2147483648 then v.toInt else v.toInt - 2147483648 := by
  have e1 : mq_n (v &&& 2147483647) = mq_n v % 2 ^ 31 := by
    unfold mq_n
    show (v.toBitVec &&& BitVec.ofNat 64 (2 ^ 31 - 1)).toNat = _
    rw [BitVec.toNat_and, BitVec.toNat_ofNat, Nat.mod_eq_of_lt (by decide), Nat.and_two_pow_sub_one_eq_mod]
  have e2 : v.toInt = mq_n v := by
    have h3 : v.toBitVec.toInt = v.toInt := rfl
    rw [BitVec.toInt_eq_toNat_cond] at h3
    have := v.toBitVec.isLt
    unfold mq_n
    split at h3 <;> omega
  rw [mq_n_int (by rw [e1]; omega), e1]
  split <;> omega
theorem mq_47_end {M : mm_M} {n : Int32} (hn : 0 < n.toInt) (h : ¬ M.1 1 2 < M.1 1 3) : mf_47 n M = some (.inr 0, mm_th M) := by
  unfold mf_47 mf_47_L5
  rw [mm_L_eq]
  have e : mf_47_b5 n 0 0 M = some (.inr 0, mm_th M) := by
    unfold mf_47_b5 mf_44
    rw [if_pos (show (0 : Int32) < n from by rw [Int32.lt_iff_toInt_lt]; exact hn), if_neg h]
    rfl
  show mm_B (mm_B (mf_47_b5 n 0 0 M) _) _ = _
  rw [e]
  rfl
