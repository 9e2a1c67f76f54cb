/-! FORM 7: FRAME, WHOLE -/
theorem mq_frameL {M N : mm_M} {f t : Int32} {n B : Int64} (h : mq_W M N) (hf : M.1 41 4 = f) (hB : M.2.1 41 5 = B) (he : M.1 1 3 = M.1 1 1) (hst : N.1 84 6 = 1000000000) (eB : mm_lshl 1 (8 + 2 * t) = B) (B1 : B.toInt ≤ 4194304) : mq_2 mq_XE (mf_121_L89 n ((1 : Int32), (0 : Int32)) M) (mf_219_L156 f t n (1 : Int32) N) (fun _ M2 _ N2 => mq_W M2 N2 ∧ M2.1 41 4 = f ∧ M2.1 1 3 = M2.1 1 1) := by
  unfold mf_121_L89 mf_219_L156
  refine mq_2_L (I := fun a M2 b N2 => 0 ≤ a.2.toInt ∧ a.2.toInt ≤ (M2.1 1 2).toInt ∧ (M2.1 1 1).toInt ≤ 10000 ∧ M2.1 41 4 = f ∧ M2.2.1 41 5 = B ∧ M2.1 1 3 = M2.1 1 1 ∧ (a.1 = b ∧ (b = 0 ∨ b = 1) ∧ mq_W M2 N2 ∧ N2.1 84 6 = 1000000000 ∨ a.1 = 1 ∧ mq_X M2 N2 ∧ M2.1 1 2 = M2.1 1 1)) (J := fun M _ N => mq_X M N) (m := fun a M => 2 * ((M.1 1 1).toInt - (M.1 1 2).toInt).toNat + (if a.1 = 1 then 1 else 0)) ?_ ?_ ⟨(by decide : 0 ≤ (0 : Int32).toInt), (mq_W_lim h).1, (mq_W_lim h).2.2.2, hf, hB, he, .inl ⟨rfl, .inr rfl, h, hst⟩⟩
  · rintro ⟨m, k⟩ M2 b N2 ⟨k0, k1, k2, hf, hB, he, hh⟩
    dsimp only at k0 k1 hh
    unfold mf_121_b89 mf_219_b156
    dsimp only
    rcases hh with ⟨rfl, hb, hW, hst⟩ | ⟨rfl, hx, er⟩
    · obtain ⟨l1, l2, l3, l4⟩ := mq_W_lim hW
      rw [if_pos (show k < 1000000 from by rw [Int32.lt_iff_toInt_lt]; simp only [Int32.reduceToInt]; omega)]
      have ek : (k + 1).toInt = k.toInt + 1 := by rw [mi_add]; simp only [Int32.reduceToInt]; omega
      rcases hb with rfl | rfl
      · rw [if_pos rfl, if_pos rfl]
        exact mq_2_ret (.inr ⟨_, _, rfl, rfl, hW, hf, he⟩)
      · rw [if_neg (by decide), if_neg (by decide), if_pos hW.1.2.2.2.2.1]
        refine mq_2_B (mq_2_K (mq_low1 hW (by decide) (by decide)) mk_47 mk_193) ?_ ?_
        · rintro w M3 b N3 ⟨⟨rfl, w1, hW3, hl3, hr3, hs3⟩, c1, c2⟩
          simp only [Int32.reduceToInt] at hr3
          have w2 : mq_n w < 4294967296 := w1 (by decide)
          have w3 : w.toInt = mq_n w := mq_n_int (by omega)
          have hf3 : M3.1 41 4 = f := by rw [(c1 41 4 rfl).1]; exact hf
          have hB3 : M3.2.1 41 5 = B := by rw [(c1 41 5 rfl).2]; exact hB
          have he3 : M3.1 1 3 = M3.1 1 1 := by rw [hl3.2.2, hl3.2.1]; exact he
          have hst3 : N3.1 84 6 = 1000000000 := by rw [(c2 84 6 rfl).1]; exact hst
          have t3 := hl3.2.1
          obtain ⟨p1, p2, p3, p4⟩ := mq_W_lim hW3
          rw [t3] at p3
          unfold mf_121_j122 mf_219_j187
          by_cases c : w = 0
          · rw [if_pos c, if_pos c, if_pos rfl, if_pos rfl]
            refine mq_2_ret (.inl ⟨_, _, rfl, rfl, ⟨by dsimp only; omega, by dsimp only; omega, by omega, hf3, hB3, he3, .inl ⟨rfl, .inl rfl, hW3, hst3⟩⟩, ?_⟩)
            dsimp only
            rw [t3, if_neg (by decide), if_pos rfl]
            omega
          · rw [if_neg c, if_neg c, if_neg (by decide), if_neg (by decide), if_pos hW3.1.2.2.2.2.1, eB]
            refine mq_2_B (mq_2_K (mq_block hW3 hf3 hB3 he3 hst3 (by omega) (by omega) B1) mk_123 mk_220) ?_ ?_
            · rintro _ M4 _ N4 ⟨⟨q1, q2, q3, q4⟩, c3, c4⟩
              have hf4 : M4.1 41 4 = f := by rw [(c3 41 4 rfl).1]; exact hf3
              have hB4 : M4.2.1 41 5 = B := by rw [(c3 41 5 rfl).2]; exact hB3
              have hlim : (M4.1 1 2).toInt ≤ (M4.1 1 1).toInt := by
                rcases q4 with ⟨q4, _⟩ | ⟨_, q4⟩
                · have := mq_W_lim q4; omega
                · rw [q4]; exact Int.le_refl _
              have t4 : M4.1 1 1 = M2.1 1 1 := q2.trans t3
              refine mq_2_ret (.inl ⟨_, _, rfl, rfl, ⟨by dsimp only; omega, by dsimp only; omega, by rw [t4]; omega, hf4, hB4, q3.trans q2.symm, ?_⟩, ?_⟩)
              · rcases q4 with ⟨q4, q5⟩ | ⟨q4, q5⟩
                · exact .inl ⟨rfl, .inr rfl, q4, q5⟩
                · exact .inr ⟨rfl, q4, q5⟩
              · dsimp only
                rw [if_pos rfl]
                rw [t4] at hlim ⊢
                omega
            · rintro M4 b N4 ⟨hx, _, _⟩
              exact mq_1_ret (.inl ⟨_, rfl, hx⟩)
        · rintro M3 b N3 ⟨hx, _, _⟩
          have dd : ∀ w s, mq_1 (mf_219_j187 f t n w s N3) (fun t N => (∃ b, t = .inl b ∧ mq_X M3 N) ∨ (∃ v, t = .inr v ∧ mq_X M3 N)) := by
            intro w s
            unfold mf_219_j187
            refine mq_1_ite (fun _ => mq_1_ret (.inl ⟨_, rfl, hx⟩)) (fun _ => ?_)
            rw [if_neg (by rw [hx.2.2.2.1]; decide)]
            exact mq_1_ret (.inl ⟨_, rfl, hx⟩)
          exact mq_1_ite (fun _ => dd _ _) (fun _ => dd _ _)
    · rw [if_pos (show k < 1000000 from by rw [Int32.lt_iff_toInt_lt]; rw [er] at k1; simp only [Int32.reduceToInt]; omega), if_neg (by decide), mq_47_end (by decide) (by rw [er, he]; exact Int32.lt_irrefl)]
      refine mq_2_ir (fun _ => ?_) (fun _ => ?_)
      · exact mq_2_thr (.inr ⟨_, rfl, hx⟩)
      · rw [if_neg (by rw [hx.2.2.2.1]; decide)]
        exact mq_2_thr (.inr ⟨_, rfl, hx⟩)
  · intro M2 b N2 hx
    exact mq_xd hx (fun z => md_219_L156 z mq_ob_refl)
theorem mq_frameT {M N : mm_M} {f : Int32} {n : Int64} (h : mq_W M N) (hf : M.1 41 4 = f) : mq_2 mq_XE (mf_121_j139 n M) (mf_219_j220 f n N) (fun _ M2 _ N2 => mq_S M2 N2) := by
  obtain ⟨u1, u2, u3, u4⟩ := h.1.2.1
  unfold mf_121_j139 mf_219_j220
  rw [if_pos h.1.2.2.2.2.1, hf, ← u1]
  have bad : mq_2 mq_XE (mf_121_j167 1 M) (mm_B (mf_190 N) (fun _ M1 => mf_219_j249 f M1)) (fun _ M2 _ N2 => mq_S M2 N2) := by
    unfold mf_121_j167
    rw [mq_27t, mq_190, mq_Bs, mq_Bt]
    obtain ⟨b, N3, e, hx⟩ := mq_xd (mq_W_bad h) (fun z => md_219_j249 (v2 := f) z mq_ob_refl)
    rw [e]
    exact mq_2_thr hx
  have good : mq_2 mq_XE (mf_121_j166 M) (mf_219_j249 f N) (fun _ M2 _ N2 => mq_S M2 N2) := by
    unfold mf_121_j166 mf_121_j167 mf_219_j249
    rw [mq_27, mq_Bs, hf]
    by_cases c : f &&& 4 = 0
    · rw [if_pos c, if_pos c]; exact mq_2_ret h.1
    · rw [if_neg c, if_neg c]
      obtain ⟨x, hx⟩ := mq_xx_r (q := 86) (m := 16384) (v1 := 0) (v2 := N.1 84 4) (N := N) (by decide) (by rw [← u1]; exact u2) (by rw [← u1]; omega) (by rw [← u1]; exact u3)
      rw [hx, mq_Bs]
      rw [← u1] at hx
      have e : mm_B (mf_213 x N) (fun _ M3 => some (Sum.inl (), M3)) = mf_213 x N := by
        match mf_213 x N with
        | none => rfl
        | some (.inl a, N) => rfl
        | some (.inr y, N) => rfl
      rw [e]
      unfold mf_213
      refine mq_2_B (mq_2_K (mq_low1 h (by decide) (by decide)) mk_47 mk_193) ?_ ?_
      · rintro d M3 b N3 ⟨⟨rfl, d1, hW3, hl3, hr3, hs3⟩, k1, k2⟩
        have e31 := mq_xx_is (p := 4) (n := 16384) (v1 := 0) (v2 := M.1 3 1) (M := M3) (by decide) u2 (by omega) u3 u3 (fun j j0 j1 => by rw [(k1 4 j rfl).1]; exact (u4 j (by omega)).1) hx
        rw [hs3, e31, mq_Bs, if_pos hW3.1.2.2.2.2.1]
        unfold mf_121_j214
        by_cases c : d.toInt32 = x
        · rw [if_pos c, if_pos c, mq_27]; exact mq_2_ret hW3.1
        · rw [if_neg c, if_neg c, mq_27t, mq_190]
          exact mq_2_thr (mq_X_th (mq_W_bad hW3))
      · rintro M3 b N3 ⟨hx, _, _⟩
        rw [if_neg (by rw [hx.2.2.2.1]; decide)]
        exact mq_1_ret hx
  by_cases c : f &&& 8 = 0
  · rw [if_pos c, if_pos c]; exact good
  · rw [if_neg c, if_neg c]
    by_cases d : n = (M.1 3 1).toInt64
    · rw [if_pos d, if_pos d]; exact good
    · rw [if_neg d, if_neg d]; exact bad
theorem mq_Ba {α β γ : Type} {x : mm_O α} {f : α → mm_M → mm_O β} {g : β → mm_M → mm_O γ} : mm_B (mm_B x f) g = mm_B x (fun a M => mm_B (f a M) g) := by
  match x with
  | none => rfl
  | some (.inl a, N) => rfl
  | some (.inr y, N) => rfl
theorem mq_Bi {α β : Type} {c : Prop} {i : Decidable c} {a b : mm_O α} {g : α → mm_M → mm_O β} : mm_B (@ite (mm_O α) c i a b) g = @ite (mm_O β) c i (mm_B a g) (mm_B b g) := by
  by_cases h : c
  · rw [if_pos h, if_pos h]
  · rw [if_neg h, if_neg h]
theorem mq_want'' {γ δ : Type} {E2 : mm_M → δ → mm_M → Prop} {R : γ → mm_M → δ → mm_M → Prop} {M N : mm_M} {c : Int32} {G : mm_M → mm_O γ} {H : mm_M → mm_O δ} (h : mq_W M N) (hs : ∀ M2 N2, mq_W M2 N2 → mq_le M M2 → mq_kp mw_44 M M2 → mq_kp mw_191 N N2 → mq_2 E2 (G M2) (H N2) R) (he : ∀ M N, mq_X M N → mq_1 (H N) (fun c N2 => E2 M c N2)) : mq_2 E2 (mm_B (mf_44 M) (fun r M2 => if r = c then mm_B (mf_27 0 M2) (fun _ M1 => G M1) else mm_B (mf_27 1 M2) (fun _ M1 => G M1))) (mm_B (mf_192 c N) (fun _ N1 => H N1)) R := by
  have e : mm_B (mf_192 c N) (fun _ N1 => H N1) = mm_B (mf_191 N) (fun r1 M2 => mm_B (if (M2.1 84 7) = 0 then (if r1 = c then (some (.inl (), M2)) else (mm_B (mf_190 M2) (fun _ M3 => some (.inl (), M3)))) else (some (.inl (), M2)) : mm_O Unit) (fun _ N1 => H N1)) := by
    unfold mf_192
    exact mq_Ba
  rw [e]
  refine mq_2_B (mq_2_K (mq_next1 h) mk_44 mk_191) ?_ ?_
  · rintro v M2 b N2 ⟨⟨rfl, v0, v1, hW, hl, hr, h3⟩, k1, k2⟩
    rw [if_pos hW.1.2.2.2.2.1]
    by_cases d : v = c
    · rw [if_pos d, if_pos d, mq_27]
      exact hs M2 N2 hW hl k1 k2
    · rw [if_neg d, if_neg d, mq_27t, mq_190]
      show mq_2 E2 (some (Sum.inr 0, mm_th M2)) (H (mm_pi N2 84 7 1)) R
      obtain ⟨x, N3, e3, q⟩ := he (mm_th M2) _ (mq_X_th (mq_W_bad hW))
      rw [e3]
      exact mq_2_thr q
  · rintro M2 b N2 ⟨hx, _, _⟩
    rw [if_neg (by rw [hx.2.2.2.1]; decide)]
    exact he M2 N2 hx
theorem mi_fb : ∀ j : Fin 256, ((Int32.ofNat j.val &&& 15 = 0 ∧ ¬ mm_shr (Int32.ofNat j.val) 4 < 4 ∧ ¬ 7 < mm_shr (Int32.ofNat j.val) 4) ∧ Int32.ofNat j.val &&& 143 = 0 ∧ ¬ (mm_shr (Int32.ofNat j.val) 4 &&& 7) < 4 ∧ mm_shr (Int32.ofNat j.val) 4 &&& 7 = mm_shr (Int32.ofNat j.val) 4 ∧ (mm_lshl 1 (8 + 2 * mm_shr (Int32.ofNat j.val) 4)).toInt ≤ 4194304) ∨ (¬ (Int32.ofNat j.val &&& 15 = 0 ∧ ¬ mm_shr (Int32.ofNat j.val) 4 < 4 ∧ ¬ 7 < mm_shr (Int32.ofNat j.val) 4) ∧ ¬ (Int32.ofNat j.val &&& 143 = 0 ∧ ¬ (mm_shr (Int32.ofNat j.val) 4 &&& 7) < 4)) := by decide +kernel
theorem mq_byte {v : Int32} (v0 : 0 ≤ v.toInt) (v1 : v.toInt < 256) : ∃ j : Fin 256, v = Int32.ofNat j.val := ⟨⟨v.toInt.toNat, by omega⟩, (Int32.ofNat_toNatClampNeg v (Int32.le_iff_toInt_le.mpr v0)).symm⟩
theorem mq_want' {γ δ : Type} {E2 : mm_M → δ → mm_M → Prop} {R : γ → mm_M → δ → mm_M → Prop} {M N : mm_M} {c : Int32} {G : mm_M → mm_O γ} {H : mm_M → mm_O δ} (h : mq_W M N) (hs : ∀ M2 N2, mq_W M2 N2 → mq_le M M2 → M2.1 3 1 = M.1 3 1 → N2.1 84 6 = N.1 84 6 → mq_2 E2 (G M2) (H N2) R) (he : ∀ M N, mq_X M N → mq_1 (H N) (fun c N2 => E2 M c N2)) : mq_2 E2 (mm_B (mf_44 M) (fun r M2 => if r = c then mm_B (mf_27 0 M2) (fun _ M1 => G M1) else mm_B (mf_27 1 M2) (fun _ M1 => G M1))) (mm_B (mf_192 c N) (fun _ N1 => H N1)) R := by
  have e : mm_B (mf_192 c N) (fun _ N1 => H N1) = mm_B (mf_191 N) (fun r1 M2 => mm_B (if (M2.1 84 7) = 0 then (if r1 = c then (some (.inl (), M2)) else (mm_B (mf_190 M2) (fun _ M3 => some (.inl (), M3)))) else (some (.inl (), M2)) : mm_O Unit) (fun _ N1 => H N1)) := by
    unfold mf_192
    exact mq_Ba
  rw [e]
  refine mq_2_B (mq_2_K (mq_next1 h) mk_44 mk_191) ?_ ?_
  · rintro v M2 b N2 ⟨⟨rfl, v0, v1, hW, hl, hr, h3⟩, k1, k2⟩
    rw [if_pos hW.1.2.2.2.2.1]
    by_cases d : v = c
    · rw [if_pos d, if_pos d, mq_27]
      exact hs M2 N2 hW hl h3 (k2 84 6 rfl).1
    · rw [if_neg d, if_neg d, mq_27t, mq_190]
      show mq_2 E2 (some (Sum.inr 0, mm_th M2)) (H (mm_pi N2 84 7 1)) R
      obtain ⟨x, N3, e3, q⟩ := he (mm_th M2) _ (mq_X_th (mq_W_bad hW))
      rw [e3]
      exact mq_2_thr q
  · rintro M2 b N2 ⟨hx, _, _⟩
    rw [if_neg (by rw [hx.2.2.2.1]; decide)]
    exact he M2 N2 hx
theorem mq_frameD {M N : mm_M} (hx : mq_X M N) : mq_1 (mm_B (mf_191 N) (fun r5 M6 => if (M6.1 84 7) = 0 then (if (mm_shr r5 (6 : Int32)) = (1 : Int32) then (if (r5 &&& (3 : Int32)) = 0 then (mf_219_j58 (N.1 84 5) r5 M6) else (mf_219_j54 (N.1 84 5) r5 M6)) else (mf_219_j54 (N.1 84 5) r5 M6)) else (mf_219_j58 (N.1 84 5) r5 M6))) (fun _ N2 => mq_X M N2) := by
  refine mq_1_B (mq_xd hx (fun z => md_191 z)) (fun _ _ hx => ?_)
  rw [if_neg (by rw [hx.2.2.2.1]; decide)]
  exact mq_xd hx (fun z => md_219_j58 z mq_ob_refl)
theorem mq_frameX {M N : mm_M} {fr f t : Int32} {n : Int64} (h : mq_W M N) (he : M.1 1 3 = M.1 1 1) (hst : N.1 84 6 = 1000000000) (hf : M.1 41 4 = f) (hB : M.2.1 41 5 = mm_lshl 1 (8 + 2 * t)) (B1 : (mm_lshl 1 (8 + 2 * t)).toInt ≤ 4194304) (f0 : 0 ≤ fr.toInt) (f1 : fr.toInt ≤ (M.1 1 2).toInt) : mq_2 mq_XE (mm_B (mf_122_j120 fr n M) (fun r2 M3 => mm_B (mf_121_L89 r2 ((1 : Int32), (0 : Int32)) M3) (fun _ M4 => mf_121_j139 r2 M4))) (mf_219_j113 fr f t n N) (fun _ M2 _ N2 => mq_S M2 N2) := by
  obtain ⟨l1, l2, l3, l4⟩ := mq_W_lim h
  have eV : N.1 84 5 = M.1 1 2 := h.1.2.2.1.1.symm
  unfold mf_122_j120 mf_219_j113
  rw [if_pos h.1.2.2.2.2.1, eV]
  obtain ⟨x, hx⟩ := mq_xx_r (q := 85) (m := 10000) (v1 := fr) (v2 := M.1 1 2) (N := N) f0 f1 (by omega) (by omega)
  have e31 := mq_xx_is (p := 2) (n := 10000) (M := M) f0 f1 (by omega) (by omega) (by omega) (fun j j0 j1 => (h.1.1.2.2.2 j (by omega)).1) hx
  rw [hx, e31, mq_Bs, mq_Bs]
  unfold mf_219_j145 mf_122_j166
  simp only [mq_Ba, mq_Bi, mq_Bs]
  refine mq_want'' h ?_ ?_
  · intro M2 N2 h2 hl2 k1 k2
    refine mq_2_B (mq_frameL (B := mm_lshl 1 (8 + 2 * t)) h2 (by rw [(k1 41 4 rfl).1]; exact hf) (by rw [(k1 41 5 rfl).2]; exact hB) (by rw [hl2.2.2, hl2.2.1]; exact he) (by rw [(k2 84 6 rfl).1]; exact hst) rfl B1) ?_ ?_
    · rintro _ M3 _ N3 ⟨q1, q2, q3⟩
      exact mq_frameT q1 q2
    · intro M3 b N3 hx
      exact mq_xd hx (fun z => md_219_j220 z mq_ob_refl)
  · intro M2 N2 hx
    exact mq_1_B (mq_xd hx (fun z => md_219_L156 z mq_ob_refl)) (fun _ _ hx => mq_xd hx (fun z => md_219_j220 z mq_ob_refl))
theorem mq_frameH {M N : mm_M} (h : mq_W M N) (he : M.1 1 3 = M.1 1 1) (hst : N.1 84 6 = 1000000000) : mq_2 mq_XE (mm_B (mf_122 M) (fun r2 M3 => mm_B (mf_121_L89 r2 ((1 : Int32), (0 : Int32)) M3) (fun _ M4 => mf_121_j139 r2 M4))) (mm_B (mf_191 N) (fun r5 M6 => if (M6.1 84 7) = 0 then (if (mm_shr r5 (6 : Int32)) = (1 : Int32) then (if (r5 &&& (3 : Int32)) = 0 then (mf_219_j58 (N.1 84 5) r5 M6) else (mf_219_j54 (N.1 84 5) r5 M6)) else (mf_219_j54 (N.1 84 5) r5 M6)) else (mf_219_j58 (N.1 84 5) r5 M6))) (fun _ M2 _ N2 => mq_S M2 N2) := by
  obtain ⟨l1, l2, l3, l4⟩ := mq_W_lim h
  have eV : N.1 84 5 = M.1 1 2 := h.1.2.2.1.1.symm
  unfold mf_122
  rw [mq_Ba, eV]
  refine mq_2_B (mq_2_K (mq_next1 h) mk_44 mk_191) ?_ ?_
  · rintro f M2 b N2 ⟨⟨rfl, v0, v1, hW, hl, hr, h3⟩, k1, k2⟩
    rw [if_pos hW.1.2.2.2.2.1]
    have hW2 : mq_W (mm_pi M2 41 4 f) N2 := hW
    have bad : ∀ fr, mq_2 mq_XE (mm_B (mf_122_j44 fr 1 (mm_pi M2 41 4 f)) (fun r2 M3 => mm_B (mf_121_L89 r2 ((1 : Int32), (0 : Int32)) M3) (fun _ M4 => mf_121_j139 r2 M4))) (mf_219_j54 fr f N2) (fun _ M2 _ N2 => mq_S M2 N2) := by
      intro fr
      unfold mf_122_j44 mf_219_j54
      rw [mq_27t, mq_Bt, mq_Bt, mq_190, mq_Bs]
      obtain ⟨b, N3, e, hx⟩ := mq_xd (mq_W_bad hW) (fun z => md_219_j58 (v1 := fr) (v2 := f) z mq_ob_refl)
      rw [e]
      exact mq_2_thr hx
    by_cases c : mm_shr f 6 = 1
    · rw [if_pos c, if_pos c]
      by_cases d : f &&& 3 = 0
      · rw [if_pos d, if_pos d]
        unfold mf_122_j44 mf_219_j58
        rw [mq_27, mq_Bs, mq_Ba]
        refine mq_2_B (mq_2_K (mq_next1 hW2) mk_44 mk_191) ?_ ?_
        · rintro s M3 b N3 ⟨⟨rfl, s0, s1, hW3, hl3, hr3, h33⟩, k3, k4⟩
          rw [if_pos hW3.1.2.2.2.2.1]
          have hl3' : mq_le M M3 := ⟨by have := hl.1; have : (M2.1 1 2).toInt ≤ (M3.1 1 2).toInt := hl3.1; omega, hl3.2.1.trans hl.2.1, hl3.2.2.trans hl.2.2⟩
          have hst3 : N3.1 84 6 = 1000000000 := by rw [(k4 84 6 rfl).1, (k2 84 6 rfl).1]; exact hst
          have hf3 : M3.1 41 4 = f := by rw [(k3 41 4 rfl).1]; rfl
          obtain ⟨j, hj⟩ := mq_byte s0 s1
          have bad2 : mq_2 mq_XE (mm_B (mf_122_j82 (M.1 1 2) (mm_shr s 4) 1 M3) (fun r2 M3 => mm_B (mf_121_L89 r2 ((1 : Int32), (0 : Int32)) M3) (fun _ M4 => mf_121_j139 r2 M4))) (mf_219_j92 (M.1 1 2) f (mm_shr s 4 &&& 7) N3) (fun _ M2 _ N2 => mq_S M2 N2) := by
            unfold mf_122_j82 mf_219_j92
            rw [mq_27t, mq_Bt, mq_Bt, mq_190, mq_Bs]
            obtain ⟨b, N4, e, hx⟩ := mq_xd (mq_W_bad hW3) (fun z => md_219_j96 (v1 := M.1 1 2) (v2 := f) (v4 := mm_shr s 4 &&& 7) z mq_ob_refl)
            rw [e]
            exact mq_2_thr hx
          rcases mi_fb j with ⟨⟨a1, a2, a3⟩, a4, a5, a6, a7⟩ | ⟨a1, a2⟩
          · rw [← hj] at a1 a2 a3 a4 a5 a6 a7
            rw [if_pos a1, if_neg a2, if_neg a3, if_pos a4, if_neg a5, a6]
            unfold mf_122_j82 mf_219_j96
            rw [mq_27, mq_Bs, hf3]
            have hW4 : mq_W (mm_pl M3 41 5 (mm_lshl 1 (8 + 2 * mm_shr s 4))) N3 := hW3
            have q1 : (M.1 1 2).toInt ≤ (M3.1 1 2).toInt := hl3'.1
            by_cases g : f &&& 8 = 0
            · rw [if_pos g, if_pos g]
              exact mq_frameX hW4 (by show M3.1 1 3 = M3.1 1 1; rw [hl3'.2.2, hl3'.2.1]; exact he) hst3 hf3 rfl a7 l1 q1
            · rw [if_neg g, if_neg g, mq_Ba]
              refine mq_2_B (mq_2_K (mq_low1 hW4 (by decide) (by decide)) mk_47 mk_193) ?_ ?_
              · rintro n M5 b N5 ⟨⟨rfl, n1, hW5, hl5, hr5, hs5⟩, k5, k6⟩
                have hl5' : (M3.1 1 2).toInt ≤ (M5.1 1 2).toInt := hl5.1
                refine mq_frameX hW5 ?_ (by rw [(k6 84 6 rfl).1]; exact hst3) (by rw [(k5 41 4 rfl).1]; exact hf3) (by rw [(k5 41 5 rfl).2]; rfl) a7 l1 (by omega)
                have q2 : M5.1 1 3 = M3.1 1 3 := hl5.2.2
                have q3 : M5.1 1 1 = M3.1 1 1 := hl5.2.1
                rw [q2, q3, hl3'.2.2, hl3'.2.1]; exact he
              · rintro M5 b N5 ⟨hx, _, _⟩
                exact mq_xd hx (fun z => md_219_j113 z mq_ob_refl)
          · rw [← hj] at a1 a2
            have L : (if s &&& 15 = 0 then (if mm_shr s 4 < 4 then mf_122_j82 (M.1 1 2) (mm_shr s 4) 1 M3 else (if 7 < mm_shr s 4 then mf_122_j82 (M.1 1 2) (mm_shr s 4) 1 M3 else mf_122_j82 (M.1 1 2) (mm_shr s 4) 0 M3)) else mf_122_j82 (M.1 1 2) (mm_shr s 4) 1 M3) = mf_122_j82 (M.1 1 2) (mm_shr s 4) 1 M3 := by
              by_cases b1 : s &&& 15 = 0
              · rw [if_pos b1]
                by_cases b2 : mm_shr s 4 < 4
                · rw [if_pos b2]
                · rw [if_neg b2]
                  by_cases b3 : 7 < mm_shr s 4
                  · rw [if_pos b3]
                  · exact absurd ⟨b1, b2, b3⟩ a1
              · rw [if_neg b1]
            have R : (if s &&& 143 = 0 then (if mm_shr s 4 &&& 7 < 4 then mf_219_j92 (M.1 1 2) f (mm_shr s 4 &&& 7) N3 else mf_219_j96 (M.1 1 2) f (mm_shr s 4 &&& 7) N3) else mf_219_j92 (M.1 1 2) f (mm_shr s 4 &&& 7) N3) = mf_219_j92 (M.1 1 2) f (mm_shr s 4 &&& 7) N3 := by
              by_cases b1 : s &&& 143 = 0
              · rw [if_pos b1]
                by_cases b2 : mm_shr s 4 &&& 7 < 4
                · rw [if_pos b2]
                · exact absurd ⟨b1, b2⟩ a2
              · rw [if_neg b1]
            rw [L, R]
            exact bad2
        · rintro M3 b N3 ⟨hx, _, _⟩
          rw [if_neg (by rw [hx.2.2.2.1]; decide)]
          exact mq_xd hx (fun z => md_219_j96 z mq_ob_refl)
      · rw [if_neg d, if_neg d]
        exact bad _
    · rw [if_neg c, if_neg c]
      exact bad _
  · rintro M2 b N2 ⟨hx, _, _⟩
    rw [if_neg (by rw [hx.2.2.2.1]; decide)]
    exact mq_xd hx (fun z => md_219_j58 z mq_ob_refl)
theorem mq_frame {M N : mm_M} (h : mq_W M N) (he : M.1 1 3 = M.1 1 1) (hst : N.1 84 6 = 1000000000) : mq_2 mq_XE (mf_121 M) (mf_219 N) (fun _ M2 _ N2 => mq_S M2 N2) := by
  unfold mf_121 mf_219 mf_121_j16
  refine mq_want' h ?_ ?_
  · intro M2 N2 h2 hl2 hs2 kN2
    unfold mf_121_j36
    refine mq_want' h2 ?_ ?_
    · intro M3 N3 h3 hl3 hs3 kN3
      unfold mf_121_j56
      refine mq_want' h3 ?_ ?_
      · intro M4 N4 h4 hl4 hs4 kN4
        unfold mf_121_j76
        refine mq_want' h4 ?_ ?_
        · intro M5 N5 h5 hl5 hs5 kN5
          have hl : mq_le M M5 := mq_le_trans hl2 (mq_le_trans hl3 (mq_le_trans hl4 hl5))
          have he5 : M5.1 1 3 = M5.1 1 1 := by rw [hl.2.2, hl.2.1]; exact he
          have hst5 : N5.1 84 6 = 1000000000 := by rw [kN5, kN4, kN3, kN2]; exact hst
          exact mq_frameH h5 he5 hst5
        · intro M5 N5 hx
          exact mq_frameD hx
      · intro M4 N4 hx
        exact mq_1_B (mq_xd hx (fun z => md_192 z)) (fun _ _ hx => mq_frameD hx)
    · intro M3 N3 hx
      exact mq_1_B (mq_xd hx (fun z => md_192 z)) (fun _ _ hx => mq_1_B (mq_xd hx (fun z => md_192 z)) (fun _ _ hx => mq_frameD hx))
  · intro M2 N2 hx
    exact mq_1_B (mq_xd hx (fun z => md_192 z)) (fun _ _ hx => mq_1_B (mq_xd hx (fun z => md_192 z)) (fun _ _ hx => mq_1_B (mq_xd hx (fun z => md_192 z)) (fun _ _ hx => mq_frameD hx)))
