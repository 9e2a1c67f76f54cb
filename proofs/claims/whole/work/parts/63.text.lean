/-! FORM 9: the text is put, in step -/
theorem md_231_L91d {A N : mm_M} {s : Int32 × Int32 × Int32 × Int32} (hz : mq_Z A) (g : mq_ob A N) : mq_D A (mf_231_L91 s N) := by
  unfold mf_231_L91
  refine mq_d_L ?_
  unfold mf_231_b91
  exact mq_1_ite (fun _ => mq_1_w hz g (mq_1_ret ⟨⟨_, rfl⟩, g⟩)) (fun _ => mq_1_ret ⟨⟨_, rfl⟩, g⟩)
theorem md_231_L124d {A N : mm_M} {a b c d s : Int32} (hz : mq_Z A) (g : mq_ob A N) : mq_D A (mf_231_L124 a b c d s N) := by
  unfold mf_231_L124
  refine mq_d_L ?_
  unfold mf_231_b124
  exact mq_1_ite (fun _ => mq_1_w hz g (mq_1_ret ⟨⟨_, rfl⟩, g⟩)) (fun _ => mq_1_ret ⟨⟨_, rfl⟩, g⟩)
/-- the last bytes and the steps, alike -/
def mq_ls (n : Nat) (M N : mm_M) : Prop := (M.1 42 12).toInt = n ∧ (N.1 84 28).toInt = n ∧ ∀ k, k < n → M.1 47 k = N.1 95 k ∧ 0 ≤ (M.1 47 k).toInt ∧ (M.1 47 k).toInt < 256 ∧ M.1 48 k = N.1 96 k ∧ 0 ≤ (M.1 48 k).toInt ∧ (M.1 48 k).toInt < n
theorem mq_ls_kp {n : Nat} {M N M2 N2 : mm_M} {w w2 : List (Nat × Option Nat)} (h : mq_ls n M N) (k1 : mq_kp w M M2) (k2 : mq_kp w2 N N2) (h1 : w.all (fun e => decide (e.1 < 42) || decide (49 < e.1)) = true) (h2 : w2.all (fun e => decide (e.1 < 95) || decide (96 < e.1)) = true) (h3 : mq_ws w2 84 28 = false) : mq_ls n M2 N2 := by
  refine ⟨?_, ?_, fun k hk => ?_⟩
  · rw [(k1 42 12 (mq_ws_out h1 (by decide) (by decide))).1]; exact h.1
  · rw [(k2 84 28 h3).1]; exact h.2.1
  · rw [(k1 47 k (mq_ws_out h1 (by decide) (by decide))).1, (k1 48 k (mq_ws_out h1 (by decide) (by decide))).1, (k2 95 k (mq_ws_out h2 (by decide) (by decide))).1, (k2 96 k (mq_ws_out h2 (by decide) (by decide))).1]
    exact h.2.2 k hk
theorem mq_text4 {M N : mm_M} {bf b z1 z2 z3 z4 : Int32} (hS : mq_S M N) (b0 : 0 ≤ b.toInt) (b1 : b.toInt < 256) (v0 : 0 ≤ bf.toInt) (v1 : bf.toInt < 256) : mq_2 mq_XE (mf_146_L49 bf z1 z2 b 0 M) (mf_231_L124 z3 bf z4 b 0 N) (fun _ M2 _ N2 => mq_S M2 N2 ∧ mq_rem M2 = mq_rem M) := by
  unfold mf_146_L49 mf_231_L124
  refine mq_2_L (I := fun (a : Int32) M2 (c : Int32) N2 => a = c ∧ 0 ≤ a.toInt ∧ mq_S M2 N2 ∧ mq_rem M2 = mq_rem M) (J := fun M (_ : Int32) N => mq_X M N) (m := fun (a : Int32) _ => (b.toInt - a.toInt).toNat) ?_ ?_ ⟨rfl, by decide, hS, rfl⟩
  · rintro k M2 c N2 ⟨rfl, k0, hS, hr⟩
    unfold mf_146_b49 mf_231_b124
    by_cases c : k < b
    · rw [if_pos c, if_pos c, if_pos hS.2.2.2.2.1]
      rw [Int32.lt_iff_toInt_lt] at c
      have e1 : (k + 1).toInt = k.toInt + 1 := by rw [mi_add]; simp only [Int32.reduceToInt]; omega
      refine mq_2_B (mq_put hS v0 v1) ?_ ?_
      · rintro _ M3 b N3 ⟨rfl, hS3, _, _, hr3⟩
        exact mq_2_ret (.inl ⟨_, _, rfl, rfl, ⟨rfl, by omega, hS3, by omega⟩, by omega⟩)
      · rintro M3 b N3 ⟨rfl, hx⟩
        exact mq_1_ret (.inl ⟨_, rfl, hx⟩)
    · rw [if_neg c, if_neg c]
      exact mq_2_ret (.inr ⟨_, _, rfl, rfl, hS, hr⟩)
  · intro M2 c N2 hx
    exact mq_xd hx (fun z => md_231_L124d z mq_ob_refl)
theorem mq_puttext {M N : mm_M} {n : Nat} {o : Int32} (hS : mq_S M N) (hl : mq_ls n M N) (hn : n ≤ 16384) (ho : M.1 42 10 = o) (o0 : 0 ≤ o.toInt) (o1 : o.toInt < n) : mq_2 mq_XE (mf_146 M) (mf_231_j64 o N) (fun _ M2 _ N2 => mq_S M2 N2 ∧ mq_rem M2 = mq_rem M) := by
  unfold mf_146 mf_231_j64
  rw [ho, if_pos hS.2.2.2.2.1, if_pos (mq_inr o0 (by omega)), if_pos (mq_inr o0 (by omega))]
  have eo : o.toNatClampNeg < n := by rw [mq_cl]; omega
  obtain ⟨_, _, _, p1, p2, p3⟩ := hl.2.2 _ eo
  rw [p1] at p2 p3
  rw [p1]
  refine mq_2_B (E := mq_XE) (P := fun _ M2 _ N2 => mq_S M2 N2 ∧ mq_rem M2 = mq_rem M) ?_ (fun _ _ _ _ q => mq_2_ret q) (fun _ _ _ q => mq_1_ret q)
  unfold mf_146_L17 mf_231_L91
  refine mq_2_L (I := fun (a : Int32 × Int32 × Int32 × Int32) M2 (b : Int32 × Int32 × Int32 × Int32) N2 => a.1 = b.2.2.1 ∧ a.2.1 = b.2.1 ∧ a.2.2.1 = b.1 ∧ a.2.2.2 = b.2.2.2 ∧ 0 ≤ a.2.2.1.toInt ∧ a.2.2.1.toInt < n ∧ 0 ≤ a.2.2.2.toInt ∧ (a.2.1 = 4 → 0 ≤ a.1.toInt ∧ a.1.toInt < 256) ∧ (a.1 = -1 → a.2.1 = 0) ∧ (a.1 = -1 ∨ 0 ≤ a.1.toInt ∧ a.1.toInt < 256) ∧ mq_S M2 N2 ∧ mq_ls n M2 N2 ∧ mq_rem M2 = mq_rem M) (J := fun M (_ : Int32 × Int32 × Int32 × Int32) N => mq_X M N) (m := fun (a : Int32 × Int32 × Int32 × Int32) _ => ((n : Int) - a.2.2.2.toInt).toNat) ?_ ?_ ⟨rfl, rfl, rfl, rfl, p2, p3, (by decide : 0 ≤ (0 : Int32).toInt), fun q => absurd q (show ¬ (0 : Int32) = 4 from by decide), fun _ => rfl, .inl rfl, hS, hl, rfl⟩
  · rintro ⟨bf, al, p, i⟩ M2 ⟨p', al', bf', i'⟩ N2 ⟨h1, h2, h3, h4, q0, q1, i0, h5, h6, h7, hS, hl, hr⟩
    dsimp only at h1 h2 h3 h4 q0 q1 i0 h5 h6 h7
    subst h1 h2 h3 h4
    unfold mf_146_b17 mf_231_b91
    dsimp only
    obtain ⟨ln, rn, hv⟩ := hl
    have cc : (i < M2.1 42 12 ↔ i < N2.1 84 28) := by rw [Int32.lt_iff_toInt_lt, Int32.lt_iff_toInt_lt, ln, rn]
    by_cases c : i < N2.1 84 28
    · rw [if_pos (cc.mpr c), if_pos c, if_pos hS.2.2.2.2.1]
      rw [Int32.lt_iff_toInt_lt, rn] at c
      have hin : mm_in p 16384 = true := mq_inr q0 (by omega)
      rw [if_pos hin, if_pos hin, if_pos hin]
      have ep : p.toNatClampNeg < n := by rw [mq_cl]; omega
      obtain ⟨b1, b2, b3, s1, s2, s3⟩ := hv _ ep
      rw [s1] at s2 s3
      rw [b1] at b2 b3
      rw [b1, s1]
      have ei : (i + 1).toInt = i.toInt + 1 := by rw [mi_add]; simp only [Int32.reduceToInt]; omega
      by_cases d : al = 4
      · rw [if_pos d, if_pos d]
        obtain ⟨f0, f1⟩ := h5 d
        refine mq_2_B (mq_2_K (mq_text4 hS b2 b3 f0 f1) mk_146_L49 mk_231_L124) ?_ ?_
        · rintro _ M3 _ N3 ⟨⟨r1, r2⟩, k1, k2⟩
          have hl3 := mq_ls_kp ⟨ln, rn, hv⟩ k1 k2 rfl rfl rfl
          unfold mf_231_j188
          rw [if_pos hin, (k2 96 _ rfl).1]
          exact mq_2_ret (.inl ⟨_, _, rfl, rfl, ⟨rfl, rfl, rfl, rfl, s2, s3, by dsimp only; omega, fun q => absurd q (show ¬ (0 : Int32) = 4 from by decide), fun _ => rfl, .inl rfl, r1, hl3, by omega⟩, by dsimp only; omega⟩)
        · rintro M3 b N3 ⟨hx, _, _⟩
          unfold mf_231_j188
          rw [if_pos hin]
          exact mq_1_ret (.inl ⟨_, rfl, hx⟩)
      · rw [if_neg d, if_neg d]
        have fin : ∀ y : Int32, mq_2 (fun M t N => (∃ b, t = .inl b ∧ mq_X M N) ∨ (∃ v, t = .inr v ∧ mq_X M N)) (mf_146_j90 (N2.1 96 p.toNatClampNeg) i (N2.1 95 p.toNatClampNeg) y M2) (mf_231_j175 p i (N2.1 95 p.toNatClampNeg) y N2) (fun r M5 t N5 => (∃ a2 b2, r = .inl a2 ∧ t = .inl b2 ∧ (a2.1 = b2.2.2.1 ∧ a2.2.1 = b2.2.1 ∧ a2.2.2.1 = b2.1 ∧ a2.2.2.2 = b2.2.2.2 ∧ 0 ≤ a2.2.2.1.toInt ∧ a2.2.2.1.toInt < n ∧ 0 ≤ a2.2.2.2.toInt ∧ (a2.2.1 = 4 → 0 ≤ a2.1.toInt ∧ a2.1.toInt < 256) ∧ (a2.1 = -1 → a2.2.1 = 0) ∧ (a2.1 = -1 ∨ 0 ≤ a2.1.toInt ∧ a2.1.toInt < 256) ∧ mq_S M5 N5 ∧ mq_ls n M5 N5 ∧ mq_rem M5 = mq_rem M) ∧ ((n : Int) - a2.2.2.2.toInt).toNat < ((n : Int) - i.toInt).toNat) ∨ (∃ u v, r = .inr u ∧ t = .inr v ∧ (mq_S M5 N5 ∧ mq_rem M5 = mq_rem M))) := by
          intro y
          unfold mf_146_j90 mf_231_j175
          refine mq_2_B (mq_2_K (mq_put hS b2 b3) mk_51 mk_194) ?_ ?_
          · rintro _ M3 b N3 ⟨⟨rfl, r1, _, _, r2⟩, k1, k2⟩
            have hl3 := mq_ls_kp ⟨ln, rn, hv⟩ k1 k2 rfl rfl rfl
            unfold mf_231_j188
            rw [if_pos hin, (k2 96 _ rfl).1]
            refine mq_2_ret (.inl ⟨_, _, rfl, rfl, ⟨rfl, rfl, rfl, rfl, s2, s3, by dsimp only; omega, fun _ => ⟨b2, b3⟩, fun q => ?_, .inr ⟨b2, b3⟩, r1, hl3, by omega⟩, by dsimp only; omega⟩)
            dsimp only at q
            rw [q] at b2
            exact absurd b2 (by decide)
          · rintro M3 b N3 ⟨⟨_, hx⟩, _, _⟩
            unfold mf_231_j188
            rw [if_pos hin]
            exact mq_1_ret (.inl ⟨_, rfl, hx⟩)
        by_cases g : N2.1 95 p.toNatClampNeg = bf
        · rw [if_pos g, if_pos g]; exact fin _
        · rw [if_neg g, if_neg g]; exact fin _
    · rw [if_neg (fun q => c (cc.mp q)), if_neg c]
      exact mq_2_ret (.inr ⟨_, _, rfl, rfl, hS, hr⟩)
  · intro M2 b N2 hx
    exact mq_xd hx (fun z => md_231_L91d z mq_ob_refl)
