/-! FORMS 2 AND 3 -/
theorem mi_32n (x : Int64) : x.toInt32.toBitVec.toNat = x.toBitVec.toNat % 2 ^ 32 := by
  show (x.toBitVec.signExtend 32).toNat = _
  rw [BitVec.signExtend_eq_setWidth_of_le _ (by decide), BitVec.toNat_setWidth]
theorem mi_hi {x : Int64} {b : Int32} : (mm_lshl x 8 ||| b.toInt64).toInt32 = mm_shl x.toInt32 8 ||| b := by
  have e8 : (8 : Int32).toInt.toNat = 8 := rfl
  refine Int32.toBitVec.inj (BitVec.eq_of_toNat_eq ?_)
  have l : (mm_lshl x 8 ||| b.toInt64).toInt32.toBitVec.toNat = (x.toBitVec.toNat * 256 % 2 ^ 64 ||| b.toInt64.toBitVec.toNat) % 2 ^ 32 := by
    rw [mi_32n, Int64.toBitVec_or, BitVec.toNat_or, mi_lshl (by decide) (by decide), BitVec.toNat_shiftLeft, Nat.shiftLeft_eq, e8]
  have hb : b.toInt64.toBitVec.toNat % 2 ^ 32 = b.toBitVec.toNat := by
    rw [← mi_32n, mi_3264]
  have r : (mm_shl x.toInt32 8 ||| b).toBitVec.toNat = (x.toBitVec.toNat % 2 ^ 32) * 256 % 2 ^ 32 ||| b.toBitVec.toNat := by
    show ((mm_shl x.toInt32 8).toBitVec ||| b.toBitVec).toNat = _
    rw [BitVec.toNat_or, mi_shl_bv (by decide) (by decide), BitVec.toNat_shiftLeft, Nat.shiftLeft_eq, e8, mi_32n]
  rw [l, r, Nat.or_mod_two_pow, hb]
  congr 1
  omega
theorem md_210_L77 {A N : mm_M} {s : Int32 × Int32} (hz : mq_Z A) (g : mq_ob A N) : mq_D A (mf_210_L77 s N) := by
  unfold mf_210_L77
  refine mq_d_Lc (I := fun _ => True) (m := fun (s : Int32 × Int32) => (4 - s.2.toInt).toNat) ?_ trivial g
  rintro ⟨x, k⟩ N _ g
  unfold mf_210_b77
  dsimp only
  refine mq_1_ite (fun c => ?_) (fun c => mq_1_ret ⟨.inr ⟨_, rfl⟩, g⟩)
  rw [Int32.lt_iff_toInt_lt] at c
  simp only [Int32.reduceToInt] at c
  refine mq_1_B (mq_d_c hz g md_191) (fun a N2 g => mq_1_ret ⟨.inl ⟨_, rfl, trivial, ?_⟩, g⟩)
  have := mq_lo k
  dsimp only
  rw [mi_add]; simp only [Int32.reduceToInt]; omega
theorem mq_highL {M N : mm_M} {x : Int64} {k y : Int32} (h : mq_W M N) (k0 : 0 ≤ k.toInt) (hxy : x.toInt32 = y) : mq_2 mq_XE (mf_48_L5 4 (x, k) M) (mf_210_L77 (y, k) N) (fun v M2 b N2 => v.toInt32 = b ∧ mq_W M2 N2 ∧ mq_le M M2 ∧ M2.1 3 1 = M.1 3 1) := by
  unfold mf_48_L5 mf_210_L77
  refine mq_2_L (I := fun (a : Int64 × Int32) M2 (b : Int32 × Int32) N2 => a.1.toInt32 = b.1 ∧ a.2 = b.2 ∧ 0 ≤ a.2.toInt ∧ mq_W M2 N2 ∧ mq_le M M2 ∧ M2.1 3 1 = M.1 3 1) (J := fun M _ N => mq_X M N) (m := fun (a : Int64 × Int32) _ => (4 - a.2.toInt).toNat) ?_ ?_ ⟨hxy, rfl, k0, h, mq_le_refl, rfl⟩
  · rintro ⟨x, k⟩ M2 ⟨y, k'⟩ N2 ⟨h1, h2, k0, hW, hl, hs⟩
    dsimp only at h1 h2 k0
    subst h1 h2
    unfold mf_48_b5 mf_210_b77
    dsimp only
    by_cases c : k < 4
    · rw [if_pos c, if_pos c]
      rw [Int32.lt_iff_toInt_lt] at c
      simp only [Int32.reduceToInt] at c
      have e1 : (k + 1).toInt = k.toInt + 1 := by rw [mi_add]; simp only [Int32.reduceToInt]; omega
      refine mq_2_B (mq_next1 hW) ?_ ?_
      · rintro v M3 b N3 ⟨rfl, v0, v1, hW3, hl3, hr3, hs3⟩
        exact mq_2_ret (.inl ⟨_, _, rfl, rfl, ⟨mi_hi, rfl, by dsimp only; omega, hW3, mq_le_trans hl hl3, hs3.trans hs⟩, by dsimp only; omega⟩)
      · intro M3 b N3 hx
        exact mq_1_ret (.inl ⟨_, rfl, hx⟩)
    · rw [if_neg c, if_neg c]
      exact mq_2_ret (.inr ⟨_, _, rfl, rfl, rfl, hW, hl, hs⟩)
  · intro M2 b N2 hx
    exact mq_xd hx (fun z => md_210_L77 z mq_ob_refl)
theorem mq_high_left {M N : mm_M} (h : mq_W (mm_pi M 1 6 0) N) : mq_2 mq_XE (mf_48 4 M) (mf_210_L77 ((0 : Int32), (0 : Int32)) N) (fun v M2 b N2 => v.toInt32 = b ∧ mq_W M2 N2 ∧ mq_le M M2 ∧ M2.1 3 1 = M.1 3 1) := by
  have base := mq_highL (x := 0) (k := 0) (y := 0) h (by decide) rfl
  have e1 : ∀ M, mf_48_L5 4 ((0 : Int64), (0 : Int32)) M = mm_B (mf_44 M) (fun r1 M2 => mm_L (fun s M => mf_48_b5 4 s.1 s.2 M) ((mm_lshl (0 : Int64) (8 : Int32)) ||| r1.toInt64, (0 : Int32) + 1) M2) := by
    intro M
    unfold mf_48_L5
    rw [mm_L_eq]
    show mm_B (mf_48_b5 4 0 0 M) _ = _
    unfold mf_48_b5
    rw [if_pos (show (0 : Int32) < 4 from by decide)]
    simp only [mq_Ba, mq_Bs]
    rfl
  unfold mf_48
  rw [e1] at base ⊢
  have e2 : ∀ x : mm_O Int64, mm_B x (fun r2 M1 => some (.inl r2, M1)) = x := by
    intro x
    match x with
    | none => rfl
    | some (.inl a, N) => rfl
    | some (.inr y, N) => rfl
  rw [e2]
  rcases mq_44_left (M := M) (v := 0) with q | ⟨q1, q2⟩
  · rw [q] at base
    exact base
  · rw [q1, mq_Bt] at base
    rw [q2, mq_Bt]
    obtain ⟨b, N2, e, ⟨a, M2, e2, _⟩ | ⟨M2, e2, hx⟩⟩ := base
    · cases e2
    · cases e2
      rw [e]
      exact mq_2_thr hx
theorem mq_adl_is {p n q m : Nat} {v1 v2 x : Int32} {M N : mm_M} (h0 : 0 ≤ v1.toInt) (hn : v2.toInt ≤ n) (hm : v2.toInt ≤ m) (he : ∀ j : Nat, v1.toInt ≤ j → (j : Int) < v2.toInt → M.1 p j = N.1 q j) : ∃ x, mf_30 p n v1 v2 M = some (.inl x, M) ∧ mf_184 q m v1 v2 N = some (.inl x, N) := by
  obtain ⟨b, N2, e, ⟨a, M2, e1, h, hM, hN⟩ | ⟨M2, e1, h⟩⟩ := mq_adl h0 hn hm he
  · exact ⟨b, by rw [e1, h, hM], by rw [e, hN]⟩
  · exact h.elim
theorem mq_crc_is {p n q m : Nat} {v1 v2 : Int32} {M N : mm_M} (h0 : 0 ≤ v1.toInt) (hn : v2.toInt ≤ n) (hm : v2.toInt ≤ m) (he : ∀ j : Nat, v1.toInt ≤ j → (j : Int) < v2.toInt → M.1 p j = N.1 q j) : ∃ x, mf_28 p n v1 v2 M = some (.inl x, M) ∧ mf_182 q m v1 v2 N = some (.inl x, N) := by
  obtain ⟨b, N2, e, ⟨a, M2, e1, h, hM, hN⟩ | ⟨M2, e1, h⟩⟩ := mq_crc h0 hn hm he
  · exact ⟨b, by rw [e1, h, hM], by rw [e, hN]⟩
  · exact h.elim
theorem md_210_j59 {A N : mm_M} {v : Int32} (hz : mq_Z A) (g : mq_ob A N) : mq_D A (mf_210_j59 v N) := by
  unfold mf_210_j59
  exact mq_d_B (mq_d_c hz g (fun z => md_203 z)) (fun _ _ g => mq_d_B (md_210_L77 hz g) (fun _ _ g => md_210_j99 hz g))
theorem mq_wrapped {M N : mm_M} (h : mq_W M N) (hf : M.1 1 4 = 0) (hr : mq_RW N) : mq_2 mq_XE (mf_75 M) (mf_210 N) (fun _ M2 _ N2 => mq_Q M2 N2) := by
  unfold mf_75 mf_210
  refine mq_2_B (mq_2_K (mq_next1 h) mk_44 mk_191) ?_ ?_
  · rintro c M2 b N2 ⟨⟨rfl, c0, c1, hW2, hl2, _⟩, k1, k2⟩
    refine mq_2_B (mq_2_K (mq_next1 hW2) mk_44 mk_191) ?_ ?_
    · rintro f M3 b N3 ⟨⟨rfl, f0, f1, hW3, hl3, _⟩, k3, k4⟩
      have hf3 : M3.1 1 4 = 0 := by rw [(k3 1 4 rfl).1, (k1 1 4 rfl).1]; exact hf
      have hr3 := mq_RW_kp (mq_RW_kp hr k2 rfl) k4 rfl
      rw [if_pos hW3.1.2.2.2.2.1]
      have bad : mq_2 mq_XE (mf_75_j59 c 1 M3) (mf_210_j55 c N3) (fun _ M2 _ N2 => mq_Q M2 N2) := by
        unfold mf_75_j59 mf_210_j55
        rw [mq_27t, mq_Bt, mq_190, mq_Bs]
        obtain ⟨t, N4, e, hx⟩ := mq_xd (mq_X_th (mq_W_bad hW3)) (fun z => md_210_j59 (v := c) z mq_ob_refl)
        rw [e]
        exact mq_2_thr hx
      have good : mq_2 mq_XE (mf_75_j59 c 0 M3) (mf_210_j59 c N3) (fun _ M2 _ N2 => mq_Q M2 N2) := by
        unfold mf_75_j59 mf_210_j59
        rw [mq_27, mq_Bs]
        refine mq_2_B (mq_blocks hW3 hf3 hr3 (.inl rfl)) ?_ ?_
        · rintro _ M4 _ N4 hW4
          refine mq_2_B (mq_high_left hW4) ?_ ?_
          · rintro v M5 b N5 ⟨rfl, hW5, hl5, hs5⟩
            obtain ⟨u1, u2, u3, u4⟩ := hW5.1.2.1
            obtain ⟨x, e1, e2⟩ := mq_adl_is (x := 0) (p := 4) (n := 16384) (q := 86) (m := 16384) (v1 := 0) (v2 := M5.1 3 1) (M := M5) (N := N5) (by decide) u3 u3 (fun j j0 j1 => (u4 j j1).1)
            unfold mf_210_j99
            rw [e1, mq_Bs, if_pos hW5.1.2.2.2.2.1, ← u1, e2, mq_Bs]
            unfold mf_75_j110
            by_cases d : v.toInt32 = x
            · rw [if_pos d, if_pos d, mq_27, mq_Bs]
              exact mq_2_ret (mq_S_Q hW5.1)
            · rw [if_neg d, if_neg d, mq_27t, mq_Bt, mq_190, mq_Bs]
              exact mq_2_thr (mq_X_th (mq_W_bad hW5))
          · intro M5 b N5 hx
            exact mq_xd hx (fun z => md_210_j99 z mq_ob_refl)
        · intro M4 b N4 hx
          exact mq_1_B (mq_xd hx (fun z => md_210_L77 z mq_ob_refl)) (fun _ _ hx => mq_xd hx (fun z => md_210_j99 z mq_ob_refl))
      by_cases d1 : mm_rem c 16 = 8
      · rw [if_pos d1, if_pos d1]
        by_cases d2 : 7 < c / 16
        · rw [if_pos d2, if_pos d2]; exact bad
        · rw [if_neg d2, if_neg d2]
          by_cases d3 : mm_rem (256 * c + f) 31 = 0
          · rw [if_pos d3, if_pos d3]
            by_cases d4 : f &&& 32 = 0
            · rw [if_pos d4, if_pos d4]; exact good
            · rw [if_neg d4, if_neg d4]; exact bad
          · rw [if_neg d3, if_neg d3]; exact bad
      · rw [if_neg d1, if_neg d1]; exact bad
    · rintro M3 b N3 ⟨hx, _, _⟩
      rw [if_neg (by rw [hx.2.2.2.1]; decide)]
      exact mq_xd hx (fun z => md_210_j59 z mq_ob_refl)
  · rintro M2 b N2 ⟨hx, _, _⟩
    refine mq_1_B (mq_xd hx (fun z => md_191 z)) (fun _ _ hx => ?_)
    rw [if_neg (by rw [hx.2.2.2.1]; decide)]
    exact mq_xd hx (fun z => md_210_j59 z mq_ob_refl)
