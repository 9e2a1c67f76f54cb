/-! FORM 7: BLOCKS OF A FRAME -/
theorem mq_Bs {α β : Type} {a : α} {M : mm_M} {f : α → mm_M → mm_O β} : mm_B (some (.inl a, M)) f = f a M := rfl
theorem mq_Bt {α β : Type} {x : Nat} {M : mm_M} {f : α → mm_M → mm_O β} : mm_B (some (.inr x, M)) f = some (.inr x, M) := rfl
theorem mq_xx_is {p n q m : Nat} {v1 v2 x : Int32} {M N : mm_M} (h0 : 0 ≤ v1.toInt) (h2 : v1.toInt ≤ v2.toInt) (hb : v2.toInt ≤ 100000) (hn : v2.toInt ≤ n) (hm : v2.toInt ≤ m) (he : ∀ j : Nat, v1.toInt ≤ j → (j : Int) < v2.toInt → M.1 p j = N.1 q j) (hx : mf_188 q m v1 v2 N = some (.inl x, N)) : mf_31 p n v1 v2 M = some (.inl x, M) := by
  obtain ⟨b, N2, e, ⟨a, M2, e1, h, hM, hN⟩ | ⟨M2, e1, h⟩⟩ := mq_xx h0 h2 hb hn hm he
  · rw [hx] at e
    cases e
    rw [e1, hM, h]
  · exact h.elim
theorem mq_j124 {M N : mm_M} {fr f : Int32} (h : mq_W M N) (hf : M.1 41 4 = f) (f0 : 0 ≤ fr.toInt) (f1 : fr.toInt ≤ (M.1 1 2).toInt) : mq_2 mq_XE (mf_123_j124 fr M) (mf_220_j97 f fr (M.1 1 2) N) (fun _ M2 _ N2 => mq_W M2 N2 ∧ mq_le M M2 ∧ N2.1 84 6 = N.1 84 6) := by
  obtain ⟨l1, l2, l3, l4⟩ := mq_W_lim h
  unfold mf_123_j124 mf_220_j97
  rw [hf]
  by_cases c : f &&& 16 = 0
  · rw [if_pos c, if_pos c]; exact mq_2_ret ⟨h, mq_le_refl, rfl⟩
  · rw [if_neg c, if_neg c, if_pos h.1.2.2.2.2.1]
    obtain ⟨x, hx⟩ := mq_xx_r (q := 85) (m := 10000) (v1 := fr) (v2 := M.1 1 2) (N := N) f0 f1 (by omega) (by omega)
    rw [hx]
    show mq_2 _ _ (mm_B (mf_213 x N) _) _
    have e : mm_B (mf_213 x N) (fun _ M3 => some (Sum.inl (), M3)) = mf_213 x N := by
      match mf_213 x N with
      | none => rfl
      | some (.inl a, N) => rfl
      | some (.inr y, N) => rfl
    rw [e]
    unfold mf_213
    refine mq_2_B (mq_2_K (mq_low1 h (by decide) (by decide)) mk_47 mk_193) ?_ ?_
    · rintro d M3 b N3 ⟨⟨rfl, d1, hW3, hl3, hr3, hs3⟩, k1, k2⟩
      have e31 := mq_xx_is (p := 2) (n := 10000) (M := M3) f0 f1 (by omega) (by omega) (by omega) (fun j j0 j1 => by rw [(k1 2 j rfl).1]; exact (h.1.1.2.2.2 j (by omega)).1) hx
      rw [e31, if_pos hW3.1.2.2.2.2.1]
      show mq_2 _ (if d.toInt32 = x then mf_123_j174 0 M3 else mf_123_j174 1 M3) _ _
      by_cases c : d.toInt32 = x
      · rw [if_pos c, if_pos c]; exact mq_2_ret ⟨hW3, hl3, (k2 84 6 rfl).1⟩
      · rw [if_neg c, if_neg c, mq_190]
        exact mq_2_thr (mq_X_th (mq_W_bad hW3))
    · rintro M3 b N3 ⟨hx, _, _⟩
      rw [if_neg (by rw [hx.2.2.2.1]; decide)]
      exact mq_1_ret hx
/-- doomed: the class goes on at the tape's end, and any read ends it -/
theorem mq_j124d {M N : mm_M} {fr f to fr2 : Int32} (hx : mq_X M N) (he : M.1 1 2 = M.1 1 1) (h3 : M.1 1 3 = M.1 1 1) (hf : M.1 41 4 = f) : mq_2 mq_XE (mf_123_j124 fr M) (mf_220_j97 f fr2 to N) (fun _ M2 _ N2 => mq_X M2 N2 ∧ M2 = M) := by
  unfold mf_123_j124 mf_220_j97
  rw [hf]
  by_cases c : f &&& 16 = 0
  · rw [if_pos c, if_pos c]; exact mq_2_ret ⟨hx, rfl⟩
  · rw [if_neg c, if_neg c, if_neg (by rw [hx.2.2.2.1]; decide), mq_47_end (by decide) (by rw [he, h3]; exact Int32.lt_irrefl)]
    exact mq_2_thr hx
theorem mq_X_pi {M N : mm_M} {i : Nat} {v : Int32} (hx : mq_X M N) (hi : mq_ws mq_obl 84 i = false) : mq_X M (mm_pi N 84 i v) := mq_X_ob hx (mq_ob_pi mq_ob_refl hi)
theorem mq_blockP {M N : mm_M} {f to fl : Int32} (h : mq_W M N) (hf : M.1 41 4 = f) (f0 : 0 ≤ fl.toInt) (f1 : fl.toInt ≤ (M.1 3 1).toInt) (ht : to = M.1 1 3 ∨ (M.1 1 3 = M.1 1 1 ∧ (M.1 1 1).toInt < to.toInt)) : mq_2 mq_XE (mf_123_j114 (M.1 1 2) fl M) (mf_220_j87 f (N.1 84 5) to to fl N) (fun _ M2 _ N2 => (M.1 1 2).toInt ≤ (M2.1 1 2).toInt ∧ M2.1 1 1 = M.1 1 1 ∧ M2.1 1 3 = M.1 1 1 ∧ (mq_W M2 N2 ∧ N2.1 84 6 = 1000000000 ∨ mq_X M2 N2 ∧ M2.1 1 2 = M2.1 1 1)) := by
  obtain ⟨l1, l2, l3, l4⟩ := mq_W_lim h
  have eV : N.1 84 5 = M.1 1 2 := h.1.2.2.1.1.symm
  rw [eV]
  unfold mf_123_j114 mf_220_j87
  refine mq_2_B (mq_2_K (mq_pieces h f0 f1 ht) mk_118 mk_218) ?_ ?_
  · rintro _ M2 _ N2 ⟨⟨hl, hr, hh⟩, k1, k2⟩
    unfold mf_42
    show mq_2 _ (mf_123_j124 (M.1 1 2) (mm_pi M2 1 3 (M2.1 1 1))) _ _
    have q1 := hl.1
    have hf2 : M2.1 41 4 = f := by rw [(k1 41 4 rfl).1]; exact hf
    rcases hh with ⟨hW, et⟩ | ⟨hx, er, _⟩
    · have er : M2.1 1 2 = to := by rw [hr, hl.2.2, et]
      obtain ⟨p1, p2, p3, p4⟩ := mq_W_lim hW
      have hW2 : mq_W (mm_pi M2 1 3 (M2.1 1 1)) (mm_pi N2 84 6 1000000000) := by
        refine ⟨⟨hW.1.1, hW.1.2.1, hW.1.2.2.1, hW.1.2.2.2.1, hW.1.2.2.2.2.1, p1, ?_, Int.le_refl _, .inl ⟨rfl, ?_⟩⟩, hW.2⟩
        · show (M2.1 1 2).toInt ≤ (M2.1 1 1).toInt
          omega
        · show (M2.1 1 1).toInt ≤ (1000000000 : Int32).toInt
          simp only [Int32.reduceToInt]; omega
      have hj := mq_j124 (fr := M.1 1 2) (f := f) hW2 hf2 l1 q1
      rw [← er]
      refine mq_2_mono hj ?_ (fun _ _ _ q => q)
      rintro _ M3 _ N3 ⟨q2, q3, k4⟩
      have q4 : (M2.1 1 2).toInt ≤ (M3.1 1 2).toInt := q3.1
      have q5 : M3.1 1 1 = M2.1 1 1 := q3.2.1
      have q6 : M3.1 1 3 = M2.1 1 1 := q3.2.2
      refine ⟨by omega, q5.trans hl.2.1, q6.trans hl.2.1, .inl ⟨q2, ?_⟩⟩
      rw [k4]; rfl
    · have hj := mq_j124d (M := mm_pi M2 1 3 (M2.1 1 1)) (N := mm_pi N2 84 6 1000000000) (fr := M.1 1 2) (fr2 := M.1 1 2) (to := to) (f := f) (mq_X_pi hx rfl) er rfl hf2
      refine mq_2_mono hj ?_ (fun _ _ _ q => q)
      rintro _ M3 _ N3 ⟨q2, rfl⟩
      exact ⟨q1, hl.2.1, hl.2.1, .inr ⟨q2, er⟩⟩
  · rintro M2 b N2 ⟨hx, _, _⟩
    exact mq_xd (mq_X_pi hx rfl) (fun z => md_220_j97 z mq_ob_refl)
theorem mq_block {M N : mm_M} {word B : Int64} {f : Int32} (h : mq_W M N) (hf : M.1 41 4 = f) (hB : M.2.1 41 5 = B) (he : M.1 1 3 = M.1 1 1) (hst : N.1 84 6 = 1000000000) (w0 : 0 ≤ word.toInt) (w1 : word.toInt < 4294967296) (B1 : B.toInt ≤ 4194304) : mq_2 mq_XE (mf_123 word M) (mf_220 word B f N) (fun _ M2 _ N2 => (M.1 1 2).toInt ≤ (M2.1 1 2).toInt ∧ M2.1 1 1 = M.1 1 1 ∧ M2.1 1 3 = M.1 1 1 ∧ (mq_W M2 N2 ∧ N2.1 84 6 = 1000000000 ∨ mq_X M2 N2 ∧ M2.1 1 2 = M2.1 1 1)) := by
  obtain ⟨l1, l2, l3, l4⟩ := mq_W_lim h
  have ea := mj_and31 w0 w1
  have eV : N.1 84 5 = M.1 1 2 := h.1.2.2.1.1.symm
  unfold mf_123 mf_220
  generalize hl : word &&& 2147483647 = l at ea
  by_cases c : word < 2147483648
  · have c2 : ¬ (2147483647 : Int64) < word := by rw [Int64.lt_iff_toInt_lt] at c ⊢; simp only [Int64.reduceToInt] at c ⊢; omega
    rw [if_pos c, if_neg c2]
    rw [Int64.lt_iff_toInt_lt] at c
    simp only [Int64.reduceToInt] at c
    rw [if_pos c] at ea
    have el : l = word := Int64.toInt_inj.mp ea
    subst el
    unfold mf_123_j13 mf_123_j27
    rw [if_pos rfl, hB]
    unfold mf_123_j44
    by_cases d : B < l
    · rw [if_pos d, if_pos d, mq_27t, mq_190]
      exact mq_2_thr (mq_X_th (mq_W_bad h))
    · rw [if_neg d, if_neg d, mq_27]
      rw [Int64.lt_iff_toInt_lt] at d
      have e32 : l.toInt32.toInt = l.toInt := by rw [Int64.toInt_toInt32, mi_bm]; omega
      have eto : (N.1 84 5 + l.toInt32).toInt = (M.1 1 2).toInt + l.toInt := by rw [eV, mi_add, e32]; omega
      have esz : (M.1 1 1 - M.1 1 2).toInt = (M.1 1 1).toInt - (M.1 1 2).toInt := by rw [mi_sub]; omega
      rw [mq_Bs, if_pos rfl]
      -- the memories of both at the pieces
      have key : ∀ (E : Int32), mf_41 l.toInt32 (mm_pi M 3 6 (M.1 3 6 + 1)) = some (.inl (), mm_pi (mm_pi M 3 6 (M.1 3 6 + 1)) 1 3 E) → (E.toInt = (M.1 1 2).toInt + l.toInt ∧ E.toInt ≤ (M.1 1 1).toInt ∨ E = M.1 1 1 ∧ (M.1 1 1).toInt < (M.1 1 2).toInt + l.toInt) → mq_2 mq_XE (mm_B (mf_41 l.toInt32 (mm_pi M 3 6 (M.1 3 6 + 1))) (fun _ M2 => if M2.1 41 4 &&& 32 = 0 then mf_123_j114 (M.1 1 2) 0 M2 else mf_123_j114 (M.1 1 2) (M2.1 3 1) M2)) (if f &&& 32 = 0 then mf_220_j87 f (N.1 84 5) (N.1 84 5 + l.toInt32) (N.1 84 5 + l.toInt32) 0 (mm_pi (mm_pi N 84 12 (N.1 84 12 + 1)) 84 6 (N.1 84 5 + l.toInt32)) else mf_220_j87 f (N.1 84 5) (N.1 84 5 + l.toInt32) (N.1 84 5 + l.toInt32) (N.1 84 4) (mm_pi (mm_pi N 84 12 (N.1 84 12 + 1)) 84 6 (N.1 84 5 + l.toInt32))) (fun _ M2 _ N2 => (M.1 1 2).toInt ≤ (M2.1 1 2).toInt ∧ M2.1 1 1 = M.1 1 1 ∧ M2.1 1 3 = M.1 1 1 ∧ (mq_W M2 N2 ∧ N2.1 84 6 = 1000000000 ∨ mq_X M2 N2 ∧ M2.1 1 2 = M2.1 1 1)) := by
        intro E e41 hE
        rw [e41]
        show mq_2 _ (if M.1 41 4 &&& 32 = 0 then mf_123_j114 (M.1 1 2) 0 (mm_pi (mm_pi M 3 6 (M.1 3 6 + 1)) 1 3 E) else mf_123_j114 (M.1 1 2) (M.1 3 1) (mm_pi (mm_pi M 3 6 (M.1 3 6 + 1)) 1 3 E)) _ _
        rw [hf]
        have hW : mq_W (mm_pi (mm_pi M 3 6 (M.1 3 6 + 1)) 1 3 E) (mm_pi (mm_pi N 84 12 (N.1 84 12 + 1)) 84 6 (N.1 84 5 + l.toInt32)) := by
          obtain ⟨v1, v2, v3, v4, v5, v6⟩ := h.1.2.2.1
          refine ⟨⟨h.1.1, h.1.2.1, ⟨v1, v2, v3, v4, v5, ?_⟩, h.1.2.2.2.1, h.1.2.2.2.2.1, l1, ?_, ?_, ?_⟩, h.2⟩
          · show M.1 3 6 + 1 = N.1 84 12 + 1
            rw [v6]
          · show (M.1 1 2).toInt ≤ E.toInt
            rcases hE with q | q
            · omega
            · rw [q.1]; omega
          · show E.toInt ≤ (M.1 1 1).toInt
            rcases hE with q | q
            · omega
            · rw [q.1]; omega
          · show E.toInt = (M.1 1 1).toInt ∧ (M.1 1 1).toInt ≤ (N.1 84 5 + l.toInt32).toInt ∨ E.toInt = (N.1 84 5 + l.toInt32).toInt
            rcases hE with q | q
            · right; omega
            · left; rw [q.1]; exact ⟨rfl, by omega⟩
        have ht : N.1 84 5 + l.toInt32 = (mm_pi (mm_pi M 3 6 (M.1 3 6 + 1)) 1 3 E).1 1 3 ∨ ((mm_pi (mm_pi M 3 6 (M.1 3 6 + 1)) 1 3 E).1 1 3 = (mm_pi (mm_pi M 3 6 (M.1 3 6 + 1)) 1 3 E).1 1 1 ∧ ((mm_pi (mm_pi M 3 6 (M.1 3 6 + 1)) 1 3 E).1 1 1).toInt < (N.1 84 5 + l.toInt32).toInt) := by
          rcases hE with q | q
          · left; exact Int32.toInt_inj.mp (eto.trans q.1.symm)
          · right; exact ⟨q.1, by show (M.1 1 1).toInt < _; omega⟩
        by_cases g : f &&& 32 = 0
        · rw [if_pos g, if_pos g]
          exact mq_blockP hW hf (by decide) h.1.2.1.2.1 ht
        · rw [if_neg g, if_neg g, ← h.1.2.1.1]
          exact mq_blockP hW hf h.1.2.1.2.1 (Int.le_refl _) ht
      by_cases g : l.toInt32 < M.1 1 1 - M.1 1 2
      · refine key (M.1 1 2 + l.toInt32) ?_ ?_
        · unfold mf_41
          rw [if_pos (show l.toInt32 < (mm_pi M 3 6 (M.1 3 6 + 1)).1 1 1 - (mm_pi M 3 6 (M.1 3 6 + 1)).1 1 2 from g)]
          rfl
        · rw [Int32.lt_iff_toInt_lt] at g
          have e9 : (M.1 1 2 + l.toInt32).toInt = (M.1 1 2).toInt + l.toInt := by rw [mi_add, e32]; omega
          left
          omega
      · refine key (M.1 1 1) ?_ ?_
        · unfold mf_41
          rw [if_neg (show ¬ l.toInt32 < (mm_pi M 3 6 (M.1 3 6 + 1)).1 1 1 - (mm_pi M 3 6 (M.1 3 6 + 1)).1 1 2 from g)]
          rfl
        · rw [Int32.lt_iff_toInt_lt] at g
          by_cases k : (M.1 1 1).toInt < (M.1 1 2).toInt + l.toInt
          · exact .inr ⟨rfl, k⟩
          · left; omega
  · have c2 : (2147483647 : Int64) < word := by rw [Int64.lt_iff_toInt_lt] at c ⊢; simp only [Int64.reduceToInt] at c ⊢; omega
    rw [if_neg c, if_pos c2]
    rw [Int64.lt_iff_toInt_lt] at c
    simp only [Int64.reduceToInt] at c
    rw [if_neg c] at ea
    have el : word - 2147483648 = l := Int64.toInt_inj.mp (by rw [mj_sub, ea]; simp only [Int64.reduceToInt]; omega)
    unfold mf_123_j13 mf_123_j27
    rw [if_neg (by decide), hB, el]
    unfold mf_123_j44
    by_cases d : B < l
    · rw [if_pos d, if_pos d, mq_27t, mq_190]
      exact mq_2_thr (mq_X_th (mq_W_bad h))
    · rw [if_neg d, if_neg d, mq_27]
      rw [Int64.lt_iff_toInt_lt] at d
      rw [mq_Bs, if_neg (by decide)]
      have e32 : l.toInt32.toInt = l.toInt := by rw [Int64.toInt_toInt32, mi_bm]; omega
      have eto : (N.1 84 5 + l.toInt32).toInt = (M.1 1 2).toInt + l.toInt := by rw [eV, mi_add, e32]; omega
      have hW : mq_W (mm_pi M 3 6 (M.1 3 6 + 1)) (mm_pi N 84 12 (N.1 84 12 + 1)) := by
        obtain ⟨v1, v2, v3, v4, v5, v6⟩ := h.1.2.2.1
        refine ⟨⟨h.1.1, h.1.2.1, ⟨v1, v2, v3, v4, v5, ?_⟩, h.1.2.2.2⟩, h.2⟩
        show M.1 3 6 + 1 = N.1 84 12 + 1
        rw [v6]
      refine mq_2_B (mq_2_K (mq_pass hW (by omega)) mk_120 mk_195) ?_ ?_
      · rintro _ M3 _ N3 ⟨⟨hW3, hl3, hr3, hs3⟩, k1, k2⟩
        have er : N.1 84 5 + l.toInt32 = M3.1 1 2 := Int32.toInt_inj.mp (by rw [eto, hr3]; rfl)
        have q1 : (M.1 1 2).toInt ≤ (M3.1 1 2).toInt := hl3.1
        rw [er, eV]
        refine mq_2_mono (mq_j124 (f := f) hW3 (by rw [(k1 41 4 rfl).1]; exact hf) l1 q1) ?_ (fun _ _ _ q => q)
        rintro _ M4 _ N4 ⟨q2, q3, q4⟩
        have q5 := q3.1
        refine ⟨by omega, q3.2.1.trans hl3.2.1, (q3.2.2.trans hl3.2.2).trans he, .inl ⟨q2, ?_⟩⟩
        rw [q4, (k2 84 6 rfl).1]
        exact hst
      · rintro M3 b N3 ⟨hx, _, _⟩
        exact mq_xd hx (fun z => md_220_j97 z mq_ob_refl)
