/-! FORM 10: plain bits, in step -/
theorem mj_plain {y d : Int64} {i v : Int32} {x P : Nat} {D : Int} (hv : v = 0 ∨ v = 1) (hx : mq_n y = x) (hxl : x < 67108864) (hP : P ≤ 67108864) (i0 : 0 ≤ i.toInt) (i1 : i.toInt < 64) (hi : 2 ^ i.toInt.toNat = 16 * P) (hd : d.toInt = D) (d0 : 0 ≤ D) (d1 : D < 1000000000000) : mq_n (mm_lshl y 1 ||| v.toInt64) = 2 * x + v.toInt.toNat ∧ (d + mm_lshl v.toInt64 i).toInt = D + 16 * ((v.toInt.toNat * P : Nat) : Int) := by
  have vv := mi_b01 hv
  constructor
  · have s1 : mq_n (mm_lshl y 1) = 2 ^ 1 * x := by
      have := mq_n_shl (x := y) (k := 1) (by decide) (by decide) (by rw [hx, show (1 : Int32).toInt.toNat = 1 from rfl]; omega)
      rw [this, hx, show (1 : Int32).toInt.toNat = 1 from rfl]
    have s2 : mq_n v.toInt64 < 2 ^ 1 := by rw [mq_n_i32 vv.1]; omega
    rw [Int64.or_comm, mq_n_or s2 s1, mq_n_i32 vv.1]
  · have s := mq_n_shl (x := v.toInt64) (k := i) i0 i1 (by rw [mq_n_i32 vv.1, hi]; have : v.toInt.toNat * (16 * P) ≤ 1 * (16 * P) := Nat.mul_le_mul_right _ (by omega); omega)
    rw [mq_n_i32 vv.1, hi] at s
    have hl : (mm_lshl v.toInt64 i).toInt = 16 * ((v.toInt.toNat * P : Nat) : Int) := by
      rcases hv with rfl | rfl
      · rw [mq_n_int (by rw [s, show (0 : Int32).toInt.toNat = 0 from rfl]; omega), s, show (0 : Int32).toInt.toNat = 0 from rfl]; omega
      · rw [mq_n_int (by rw [s, show (1 : Int32).toInt.toNat = 1 from rfl]; omega), s, show (1 : Int32).toInt.toNat = 1 from rfl]; omega
    rw [mj_add, hl, hd]
    rcases hv with rfl | rfl
    · rw [show (0 : Int32).toInt.toNat = 0 from rfl]; omega
    · rw [show (1 : Int32).toInt.toNat = 1 from rfl]; omega
/-- where the loop stands -/
def mq_cp (t : Nat) (bs : Int) (d : Int64) (i : Int32) (y : Int64) (k : Int32) : Prop := ∃ j x : Nat, k.toInt = j ∧ j ≤ t ∧ i.toInt = t + 3 - j ∧ mq_n y = x ∧ x < 2 ^ j ∧ d.toInt = bs + 16 * ((x * 2 ^ (t - j) : Nat) : Int)
theorem mq_cp_step {t : Nat} {bs : Int} {d y : Int64} {i k v : Int32} (h : mq_cp t bs d i y k) (ht : t ≤ 26) (b0 : 0 ≤ bs) (b1 : bs < 4294967298) (hk : k.toInt < t) (hv : v = 0 ∨ v = 1) : mq_cp t bs (d + mm_lshl v.toInt64 i) (i + -1) (mm_lshl y 1 ||| v.toInt64) (k + 1) := by
  obtain ⟨j, x, h1, h2, h3, h4, h5, h6⟩ := h
  have hp : 2 ^ (t - j) = 2 * 2 ^ (t - (j + 1)) := by rw [← Nat.pow_succ']; congr 1; omega
  have hb1 : 2 ^ j * 2 ^ (t - j) = 2 ^ t := by rw [← Nat.pow_add]; congr 1; omega
  have hb2 : 2 ^ t ≤ 2 ^ 26 := Nat.pow_le_pow_right (by decide) (by omega)
  have hb3 : 2 ^ j ≤ 2 ^ 26 := Nat.pow_le_pow_right (by decide) (by omega)
  have hb4 : x * 2 ^ (t - j) ≤ 2 ^ j * 2 ^ (t - j) := Nat.mul_le_mul_right _ (by omega)
  have hb5 : 2 ^ (t - (j + 1)) ≤ 2 ^ 26 := Nat.pow_le_pow_right (by decide) (by omega)
  have ein : i.toInt.toNat = (t - (j + 1)) + 4 := by omega
  have h16 : 2 ^ i.toInt.toNat = 16 * 2 ^ (t - (j + 1)) := by rw [ein, Nat.pow_add, Nat.mul_comm]
  obtain ⟨q1, q2⟩ := mj_plain (y := y) (d := d) (i := i) (v := v) (x := x) (P := 2 ^ (t - (j + 1))) (D := bs + 16 * ((x * 2 ^ (t - j) : Nat) : Int)) hv h4 (by omega) (by omega) (by omega) (by omega) h16 h6 (by omega) (by omega)
  have vv := mi_b01 hv
  refine ⟨j + 1, 2 * x + v.toInt.toNat, ?_, by omega, ?_, q1, ?_, ?_⟩
  · rw [mi_add]; simp only [Int32.reduceToInt]; omega
  · rw [mi_add, show (-1 : Int32).toInt = -1 from rfl]; omega
  · rw [Nat.pow_succ]; omega
  · rw [q2]
    have : (2 * x + v.toInt.toNat) * 2 ^ (t - (j + 1)) = x * 2 ^ (t - j) + v.toInt.toNat * 2 ^ (t - (j + 1)) := by
      rw [hp, Nat.add_mul, ← Nat.mul_assoc, Nat.mul_comm x 2]
    rw [this, Int.natCast_add]
    omega
theorem mq_cplainL {M N : mm_M} {T i k : Int32} {t : Nat} {bs : Int} {d y : Int64} (hW : mq_W M N) (hc : mq_cx M N) (hT : T.toInt = t) (ht : t ≤ 26) (b0 : 0 ≤ bs) (b1 : bs < 4294967298) (hp : mq_cp t bs d i y k) : mq_2 mq_XE (mf_170_L82 (d, i) M) (mf_236_L5 T (y, k) N) (fun v M2 b N2 => v.toInt = bs + 16 * mq_n b ∧ mq_n b < 2 ^ t ∧ mq_W M2 N2 ∧ mq_cx M2 N2) := by
  unfold mf_170_L82 mf_236_L5
  refine mq_2_L (I := fun (a : Int64 × Int32) M2 (b : Int64 × Int32) N2 => mq_cp t bs a.1 a.2 b.1 b.2 ∧ mq_W M2 N2 ∧ mq_cx M2 N2) (J := fun M (_ : Int64 × Int32) N => mq_X M N) (m := fun (a : Int64 × Int32) _ => a.2.toInt.toNat) ?_ ?_ ⟨hp, hW, hc⟩
  · rintro ⟨d, i⟩ M2 ⟨y, k⟩ N2 ⟨hp, w2, c2⟩
    dsimp only at hp
    unfold mf_170_b82 mf_236_b5
    dsimp only
    have hp0 := hp
    obtain ⟨j, x, h1, h2, h3, h4, h5, h6⟩ := hp
    by_cases c : j < t
    · have hi4 : ¬ i < 4 := by rw [Int32.lt_iff_toInt_lt]; simp only [Int32.reduceToInt]; omega
      have hkT : k < T := by rw [Int32.lt_iff_toInt_lt]; omega
      rw [if_neg hi4, if_pos hkT, if_pos w2.1.2.2.2.2.1]
      obtain ⟨a1, a2, a3⟩ := c2
      have ei : (i + -1).toInt.toNat < i.toInt.toNat := by rw [mi_add, show (-1 : Int32).toInt = -1 from rfl]; omega
      have go : ∀ (v : Int32) (M3 N3 : mm_M), (v = 0 ∨ v = 1) → mq_W M3 N3 → mq_cx M3 N3 → mq_2 (fun M t N => (∃ b, t = .inl b ∧ mq_X M N) ∨ (∃ v, t = .inr v ∧ mq_X M N)) (mm_B (mf_162_j41 v M3) (fun r1 M2 => (some (.inl (.inl ((d + (mm_lshl r1.toInt64 i)), (i + (-1 : Int32)))), M2) : mm_O ((Int64 × Int32) ⊕ Int64)))) (mm_B (mf_232 N3) (fun _ M1 => (some (.inl (.inl (((mm_lshl y (1 : Int32)) ||| v.toInt64), (k + (1 : Int32)))), M1) : mm_O ((Int64 × Int32) ⊕ Int64)))) (fun r M5 u N5 => (∃ a2 b2, r = .inl a2 ∧ u = .inl b2 ∧ (mq_cp t bs a2.1 a2.2 b2.1 b2.2 ∧ mq_W M5 N5 ∧ mq_cx M5 N5) ∧ a2.2.toInt.toNat < i.toInt.toNat) ∨ (∃ q w, r = .inr q ∧ u = .inr w ∧ (q.toInt = bs + 16 * mq_n w ∧ mq_n w < 2 ^ t ∧ mq_W M5 N5 ∧ mq_cx M5 N5))) := by
        intro v M3 N3 hv w3 c3
        refine mq_2_B (show mq_2 mq_XE (mf_162_j41 v M3) (mf_232 N3) _ from mq_cgrow (v := v) w3 c3) ?_ ?_
        · rintro a M4 _ N4 ⟨rfl, w4, c4⟩
          exact mq_2_ret (.inl ⟨_, _, rfl, rfl, ⟨mq_cp_step hp0 ht b0 b1 (by omega) hv, w4, c4⟩, ei⟩)
        · intro M4 b N4 hx
          exact mq_1_ret (.inl ⟨_, rfl, hx⟩)
      unfold mf_162
      rw [a1, a2]
      unfold mf_236_j47 mf_236_j68
      by_cases g : N2.2.1 84 34 < N2.2.1 84 33 / 2
      · rw [if_pos g, if_pos g, if_neg (show ¬ (0 : Int32) = 1 from by decide)]
        refine go 0 _ _ (.inl rfl) (show mq_W (mm_pl M2 80 4 _) (mm_pl (mm_pl N2 84 33 _) 84 34 _) from w2) ⟨rfl, ?_, a3⟩
        show M2.2.1 80 5 = N2.2.1 84 34 - 0
        rw [a2]
        exact (Int64.sub_zero _).symm
      · rw [if_neg g, if_neg g, if_pos rfl]
        exact go 1 _ _ (.inr rfl) (show mq_W (mm_pl (mm_pl M2 80 4 _) 80 5 _) (mm_pl (mm_pl N2 84 33 _) 84 34 _) from w2) ⟨rfl, rfl, a3⟩
    · have hi4 : i < 4 := by rw [Int32.lt_iff_toInt_lt]; simp only [Int32.reduceToInt]; omega
      have hkT : ¬ k < T := by rw [Int32.lt_iff_toInt_lt]; omega
      rw [if_pos hi4, if_neg hkT]
      have : j = t := by omega
      subst this
      refine mq_2_ret (.inr ⟨_, _, rfl, rfl, ?_, by rw [h4]; exact h5, w2, c2⟩)
      rw [h6, h4, Nat.sub_self, Nat.pow_zero, Nat.mul_one]
  · intro M2 b N2 hx
    exact mq_xd hx (fun z => md_236_L5 z mq_ob_refl)
theorem mq_cplain {M N : mm_M} {T i : Int32} {t : Nat} {d : Int64} (hW : mq_W M N) (hc : mq_cx M N) (hT : T.toInt = t) (ht : t ≤ 26) (hi : i.toInt = t + 3) (b0 : 0 ≤ d.toInt) (b1 : d.toInt < 4294967298) : mq_2 mq_XE (mf_170_L82 (d, i) M) (mf_236 T N) (fun v M2 b N2 => v.toInt = d.toInt + 16 * mq_n b ∧ mq_n b < 2 ^ t ∧ mq_W M2 N2 ∧ mq_cx M2 N2) := by
  unfold mf_236
  refine mq_2_Br' (E := mq_XE) (mq_cplainL (bs := d.toInt) hW hc hT ht b0 b1 ⟨0, 0, rfl, Nat.zero_le _, by omega, rfl, by decide, by omega⟩) (fun _ _ _ _ q => ⟨_, rfl, q⟩) (fun _ _ _ q => ⟨_, _, rfl, q⟩)
