/-! CODES: a letter is taken, in step -/
theorem mi_shl_bv {x k : Int32} (k0 : 0 ≤ k.toInt) (k1 : k.toInt < 32) : (mm_shl x k).toBitVec = x.toBitVec <<< k.toInt.toNat := by
  have e : k = Int32.ofNat k.toInt.toNat := (Int32.ofNat_toNatClampNeg k (Int32.le_iff_toInt_le.mpr k0)).symm
  have hs : ∀ j : Fin 32, ((Int32.ofNat j.val) &&& 31).toBitVec.smod 32 = BitVec.ofNat 32 j.val := by decide
  have h := hs ⟨k.toInt.toNat, by omega⟩
  dsimp only at h
  rw [← e] at h
  unfold mm_shl
  rw [Int32.toBitVec_shiftLeft, h]
  show x.toBitVec <<< (BitVec.ofNat 32 k.toInt.toNat).toNat = _
  rw [BitVec.toNat_ofNat, Nat.mod_eq_of_lt (by omega)]
theorem mi_nat {x : Int32} (h : 0 ≤ x.toInt) : (x.toBitVec.toNat : Int) = x.toInt := by
  have h3 : x.toBitVec.toInt = x.toInt := rfl
  rw [BitVec.toInt_eq_toNat_cond] at h3
  have := x.toBitVec.isLt
  split at h3 <;> omega
theorem mi_ofn {x : Int32} {a : Nat} (h : x.toBitVec.toNat = a) (ha : a < 2147483648) : x.toInt = a := by
  show x.toBitVec.toInt = _
  rw [BitVec.toInt_eq_toNat_of_lt (by omega), h]
theorem mi_shl {x k : Int32} {a j : Nat} (hx : x.toInt = a) (k0 : k.toInt = j) (k1 : j < 32) (h : a * 2 ^ j < 2147483648) : (mm_shl x k).toInt = ((a * 2 ^ j : Nat) : Int) := by
  have hn := mi_nat (x := x) (by omega)
  have ej : k.toInt.toNat = j := by omega
  refine mi_ofn ?_ h
  rw [mi_shl_bv (by omega) (by omega), BitVec.toNat_shiftLeft, Nat.shiftLeft_eq, ej]
  have : x.toBitVec.toNat = a := by omega
  rw [this, Nat.mod_eq_of_lt (by omega)]
theorem mi_or {x y : Int32} {a b i : Nat} (hx : x.toInt = ((2 ^ i * a : Nat) : Int)) (hy : y.toInt = b) (hb : b < 2 ^ i) (h : 2 ^ i * a + b < 2147483648) : (x ||| y).toInt = ((2 ^ i * a + b : Nat) : Int) := by
  have hn := mi_nat (x := x) (by omega)
  have hm := mi_nat (x := y) (by omega)
  refine mi_ofn ?_ h
  show (x.toBitVec ||| y.toBitVec).toNat = _
  rw [BitVec.toNat_or, Nat.two_pow_add_eq_or_of_lt hb]
  have h1 : x.toBitVec.toNat = 2 ^ i * a := by omega
  have h2 : y.toBitVec.toNat = b := by omega
  rw [h1, h2]
theorem mi_next {v b : Int32} {a : Nat} (hv : v.toInt = a) (ha : a < 1048576) (hb : b = 0 ∨ b = 1) : (mm_shl v 1 ||| b).toInt = 2 * a + b.toInt ∧ (mm_shl v 1).toInt = 2 * a := by
  have h1 : (mm_shl v 1).toInt = ((a * 2 ^ 1 : Nat) : Int) := mi_shl hv (show (1 : Int32).toInt = ((1 : Nat) : Int) from rfl) (by decide) (by omega)
  have h2 : (mm_shl v 1).toInt = ((2 ^ 1 * a : Nat) : Int) := by rw [h1, Nat.mul_comm]
  refine ⟨?_, by omega⟩
  rcases hb with rfl | rfl
  · have := mi_or (y := 0) (b := 0) h2 rfl (by decide) (by omega)
    rw [this]
    simp only [Int32.reduceToInt]
    omega
  · have := mi_or (y := 1) (b := 1) h2 rfl (by decide) (by omega)
    rw [this]
    simp only [Int32.reduceToInt]
    omega
/-- the class's table -/
def mq_TC (p : Nat) (f : Nat → Nat) (n : Nat) (M : mm_M) : Prop := (M.1 p 4).toInt = mc_us f n ∧ (M.1 p 5).toInt = mc_sp f n ∧ (∀ l : Nat, 1 ≤ l → l ≤ 20 → (M.1 (p + 3) l).toInt = mc_ct f l n) ∧ (∀ s : Nat, s < n → f s ≠ 0 → (M.1 (p + 2) (mc_H f n (f s) + mc_ct f (f s) s)).toInt = s)
/-- the reference's table -/
def mq_TR (t : Nat) (f : Nat → Nat) (n : Nat) (N : mm_M) : Prop := ∀ s : Nat, s < n → (N.1 87 (300 * t + s)).toInt = f s ∧ (f s ≠ 0 → (N.1 88 (300 * t + s)).toInt = mc_c f n s)
theorem mc_c_bound {f : Nat → Nat} {n s : Nat} (hs : s < n) (h0 : f s ≠ 0) (hf : ∀ s, s < n → f s ≤ 20) : mc_c f n s * 2 ^ (20 - f s) < n * 1048576 := by
  have h1 := mc_c_lt (f := f) hs h0
  have h2 := mc_G_le (f := f) (n := n) (l := f s) (20 - f s)
  have h20 := hf s hs
  rw [show f s + (20 - f s) = 20 from by omega] at h2
  have h3 := mc_sp_G n hf
  have h4 := mc_sp_le (f := f) n
  have h5 : mc_c f n s * 2 ^ (20 - f s) < mc_G f n (f s) * 2 ^ (20 - f s) := Nat.mul_lt_mul_of_pos_right h1 (Nat.pow_pos (by decide))
  omega
/-- does it begin a code -/
theorem mq_begins {N : mm_M} {t n l v : Nat} {f : Nat → Nat} {tn nn vv ll : Int32} (hT : mq_TR t f n N) (ht : t ≤ 6) (hn : n ≤ 300) (htn : tn.toInt = 300 * t) (hnn : nn.toInt = n) (hv : vv.toInt = v) (hl : ll.toInt = l) (hf : ∀ s, s < n → f s ≤ 20) : ∃ r : Int32, mf_202_L25 nn tn vv ll ((0 : Int32), tn) N = some (.inl r, N) ∧ ((r = 0 ∧ ¬ ∃ s, s < n ∧ l < f s ∧ mc_c f n s / 2 ^ (f s - l) = v) ∨ (r = 1 ∧ ∃ s, s < n ∧ l < f s ∧ mc_c f n s / 2 ^ (f s - l) = v)) := by
  have etn : (tn + nn).toInt = 300 * t + n := by rw [mi_add]; omega
  have main : mq_1 (mf_202_L25 nn tn vv ll ((0 : Int32), tn) N) (fun r N2 => N2 = N ∧ ((r = 0 ∧ ¬ ∃ s, s < n ∧ l < f s ∧ mc_c f n s / 2 ^ (f s - l) = v) ∨ (r = 1 ∧ ∃ s, s < n ∧ l < f s ∧ mc_c f n s / 2 ^ (f s - l) = v))) := by
    unfold mf_202_L25
    refine mq_1_L (I := fun (a : Int32 × Int32) N2 => N2 = N ∧ ∃ k : Nat, k ≤ n ∧ a.2.toInt = ((300 * t + k : Nat) : Int) ∧ ((a.1 = 0 ∧ ¬ ∃ s, s < k ∧ l < f s ∧ mc_c f n s / 2 ^ (f s - l) = v) ∨ (a.1 = 1 ∧ ∃ s, s < k ∧ l < f s ∧ mc_c f n s / 2 ^ (f s - l) = v))) (m := fun (a : Int32 × Int32) _ => (((300 * t + n : Nat) : Int) - a.2.toInt).toNat) ?_ ⟨rfl, 0, by omega, by dsimp only; omega, .inl ⟨rfl, by rintro ⟨s, h, _⟩; omega⟩⟩
    rintro ⟨b, x⟩ N2 ⟨rfl, k, hk, hx, hb⟩
    dsimp only at hx hb
    unfold mf_202_b25
    dsimp only
    have ex : (x + 1).toInt = ((300 * t + (k + 1) : Nat) : Int) := by rw [mi_add]; simp only [Int32.reduceToInt]; omega
    refine mq_1_ite (fun c => ?_) (fun c => ?_)
    · rw [Int32.lt_iff_toInt_lt, etn] at c
      have hin : mm_in x 2100 = true := mq_inr (by omega) (by omega)
      have hxn : x.toNatClampNeg = 300 * t + k := by rw [mq_cl]; omega
      obtain ⟨t1, t2⟩ := hT k (by omega)
      have h20 := hf k (by omega)
      rcases hb with ⟨rfl, hb⟩ | ⟨rfl, hb⟩
      · rw [if_pos rfl, if_pos hin, hxn]
        have no : ¬ (l < f k ∧ mc_c f n k / 2 ^ (f k - l) = v) → ¬ ∃ s, s < k + 1 ∧ l < f s ∧ mc_c f n s / 2 ^ (f s - l) = v := by
          rintro h ⟨s, h1, h2⟩
          by_cases q : s = k
          · subst q; exact h h2
          · exact hb ⟨s, by omega, h2⟩
        refine mq_1_ite (fun d => ?_) (fun d => ?_)
        · rw [Int32.lt_iff_toInt_lt, t1, hl] at d
          rw [if_pos hin, if_pos hin]
          have es : (N2.1 87 (300 * t + k) - ll).toInt = ((f k - l : Nat) : Int) := by rw [mi_sub, t1, hl]; omega
          have esn : (N2.1 87 (300 * t + k) - ll).toInt.toNat = f k - l := by omega
          have ec := t2 (by omega)
          have esh : (mm_shr (N2.1 88 (300 * t + k)) (N2.1 87 (300 * t + k) - ll)).toInt = ((mc_c f n k / 2 ^ (f k - l) : Nat) : Int) := by
            rw [mi_shr_nat (by omega) (by omega) (by omega), ec, esn, Int.natCast_ediv]
          refine mq_1_ite (fun g => ?_) (fun g => ?_)
          · have g2 := congrArg Int32.toInt g
            rw [esh, hv] at g2
            exact mq_1_ret (.inl ⟨_, rfl, ⟨rfl, k + 1, by omega, ex, .inr ⟨rfl, k, by omega, by omega, by omega⟩⟩, by dsimp only; omega⟩)
          · have g2 : ¬ mc_c f n k / 2 ^ (f k - l) = v := fun q => g (Int32.toInt_inj.mp (by rw [esh, hv, q]))
            exact mq_1_ret (.inl ⟨_, rfl, ⟨rfl, k + 1, by omega, ex, .inl ⟨rfl, no (fun q => g2 q.2)⟩⟩, by dsimp only; omega⟩)
        · rw [Int32.lt_iff_toInt_lt, t1, hl] at d
          exact mq_1_ret (.inl ⟨_, rfl, ⟨rfl, k + 1, by omega, ex, .inl ⟨rfl, no (fun q => by omega)⟩⟩, by dsimp only; omega⟩)
      · rw [if_neg (show ¬ (1 : Int32) = 0 from by decide)]
        obtain ⟨s, h1, h2⟩ := hb
        exact mq_1_ret (.inl ⟨_, rfl, ⟨rfl, k + 1, by omega, ex, .inr ⟨rfl, s, by omega, h2⟩⟩, by dsimp only; omega⟩)
    · rw [Int32.lt_iff_toInt_lt, etn] at c
      have : k = n := by omega
      subst this
      exact mq_1_ret (.inr ⟨_, rfl, rfl, hb⟩)
  obtain ⟨r, N2, e, rfl, q⟩ := main
  exact ⟨r, e, q⟩
/-- is it a code -/
theorem mq_match {N : mm_M} {t n l v : Nat} {f : Nat → Nat} {tn nn vv ll : Int32} (hT : mq_TR t f n N) (ht : t ≤ 6) (hn : n ≤ 300) (htn : tn.toInt = 300 * t) (hnn : nn.toInt = n) (hv : vv.toInt = v) (hl : ll.toInt = l) (hl0 : l ≠ 0) (w : N.1 84 7 = 0) : ∃ r, mf_202_L114 nn tn vv ll tn N = some (.inl r, N) ∧ ((r = .inr () ∧ ¬ ∃ s, s < n ∧ f s = l ∧ mc_c f n s = v) ∨ (∃ x : Int32, ∃ s : Nat, r = .inl x ∧ x.toInt = ((300 * t + s : Nat) : Int) ∧ s < n ∧ f s = l ∧ mc_c f n s = v)) := by
  have etn : (tn + nn).toInt = 300 * t + n := by rw [mi_add]; omega
  have main : mq_1 (mf_202_L114 nn tn vv ll tn N) (fun r N2 => N2 = N ∧ ((r = .inr () ∧ ¬ ∃ s, s < n ∧ f s = l ∧ mc_c f n s = v) ∨ (∃ x : Int32, ∃ s : Nat, r = .inl x ∧ x.toInt = ((300 * t + s : Nat) : Int) ∧ s < n ∧ f s = l ∧ mc_c f n s = v))) := by
    unfold mf_202_L114
    refine mq_1_L (I := fun (a : Int32) N2 => N2 = N ∧ ∃ k : Nat, k ≤ n ∧ a.toInt = ((300 * t + k : Nat) : Int) ∧ ¬ ∃ s, s < k ∧ f s = l ∧ mc_c f n s = v) (m := fun (a : Int32) _ => (((300 * t + n : Nat) : Int) - a.toInt).toNat) ?_ ⟨rfl, 0, by omega, by omega, by rintro ⟨s, h, _⟩; omega⟩
    rintro x N2 ⟨rfl, k, hk, hx, hb⟩
    unfold mf_202_b114
    have ex : (x + 1).toInt = ((300 * t + (k + 1) : Nat) : Int) := by rw [mi_add]; simp only [Int32.reduceToInt]; omega
    refine mq_1_ite (fun c => ?_) (fun c => ?_)
    · rw [Int32.lt_iff_toInt_lt, etn] at c
      have hin : mm_in x 2100 = true := mq_inr (by omega) (by omega)
      have hxn : x.toNatClampNeg = 300 * t + k := by rw [mq_cl]; omega
      obtain ⟨t1, t2⟩ := hT k (by omega)
      rw [if_pos w, if_pos hin, hxn]
      have no : ¬ (f k = l ∧ mc_c f n k = v) → ¬ ∃ s, s < k + 1 ∧ f s = l ∧ mc_c f n s = v := by
        rintro h ⟨s, h1, h2⟩
        by_cases q : s = k
        · subst q; exact h h2
        · exact hb ⟨s, by omega, h2⟩
      refine mq_1_ite (fun d => ?_) (fun d => ?_)
      · have d2 := congrArg Int32.toInt d
        rw [t1, hl] at d2
        rw [if_pos hin]
        refine mq_1_ite (fun g => ?_) (fun g => ?_)
        · have g2 := congrArg Int32.toInt g
          rw [t2 (by omega), hv] at g2
          exact mq_1_ret (.inr ⟨_, rfl, rfl, .inr ⟨x, k, rfl, hx, by omega, by omega, by omega⟩⟩)
        · have g2 : ¬ mc_c f n k = v := fun q => g (Int32.toInt_inj.mp (by rw [t2 (by omega), hv, q]))
          exact mq_1_ret (.inl ⟨_, rfl, ⟨rfl, k + 1, by omega, ex, no (fun q => g2 q.2)⟩, by omega⟩)
      · have d2 : ¬ f k = l := fun q => d (Int32.toInt_inj.mp (by rw [t1, hl, q]))
        exact mq_1_ret (.inl ⟨_, rfl, ⟨rfl, k + 1, by omega, ex, no (fun q => d2 q.1)⟩, by omega⟩)
    · rw [Int32.lt_iff_toInt_lt, etn] at c
      have : k = n := by omega
      subst this
      exact mq_1_ret (.inr ⟨_, rfl, rfl, .inl ⟨rfl, hb⟩⟩)
  obtain ⟨r, N2, e, rfl, q⟩ := main
  exact ⟨r, e, q⟩
