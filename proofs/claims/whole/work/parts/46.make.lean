/-! CODES: how the tables are made -/
theorem mq_pn {M : mm_M} {p i q j : Nat} {v : Int32} (h : q ≠ p) : (mm_pi M p i v).1 q j = M.1 q j := by rw [mq_p1, if_neg h]
theorem mq_ps {M : mm_M} {p i : Nat} {v : Int32} : (mm_pi M p i v).1 p i = v := by rw [mq_p1, if_pos rfl, if_pos rfl]
theorem mq_pj {M : mm_M} {p i j : Nat} {v : Int32} (h : j ≠ i) : (mm_pi M p i v).1 p j = M.1 p j := by rw [mq_p1, if_pos rfl, if_neg h]
theorem mq_fill {M : mm_M} {q n : Nat} {v : Int32} (hn : n < 2147483648) : mq_1 (mf_290 q n v M) (fun _ M2 => (∀ i, i < n → M2.1 q i = v) ∧ mq_kp [(q, none)] M M2) := by
  unfold mf_290
  refine mq_1_B (P := fun _ M2 => (∀ i, i < n → M2.1 q i = v) ∧ mq_kp [(q, none)] M M2) ?_ (fun _ _ q => mq_1_ret q)
  unfold mf_290_L5
  have en : (Int32.ofNat n).toInt = n := Int32.toInt_ofNat_of_lt hn
  refine mq_1_L (I := fun (a : Int32) M2 => ∃ k : Nat, k ≤ n ∧ a.toInt = k ∧ (∀ i, i < k → M2.1 q i = v) ∧ mq_kp [(q, none)] M M2) (m := fun (a : Int32) _ => ((n : Int) - a.toInt).toNat) ?_ ⟨0, by omega, rfl, fun i h => by omega, mq_kp_refl⟩
  rintro x M2 ⟨k, hk, hx, hv, hkp⟩
  unfold mf_290_b5
  refine mq_1_ite (fun c => ?_) (fun c => ?_)
  · rw [Int32.lt_iff_toInt_lt, en] at c
    have e1 : (x + 1).toInt = ((k + 1 : Nat) : Int) := by rw [mi_add]; simp only [Int32.reduceToInt]; omega
    have exn : x.toNatClampNeg = k := by rw [mq_cl]; omega
    rw [if_pos (mq_inr (by omega) (by omega)), exn]
    refine mq_1_ret (.inl ⟨_, rfl, ⟨k + 1, by omega, e1, ?_, mq_kp_pi hkp (by simp [mq_ws])⟩, by omega⟩)
    intro i hi
    by_cases d : i = k
    · subst d; rw [mq_ps]
    · rw [mq_pj d]; exact hv i (by omega)
  · rw [Int32.lt_iff_toInt_lt, en] at c
    have : k = n := by omega
    subst this
    exact mq_1_ret (.inr ⟨_, rfl, hv, hkp⟩)
theorem mi_whole : ∀ j : Fin 21, (mm_shr 1048576 (Int32.ofNat j.val)).toInt = ((2 ^ (20 - j.val) : Nat) : Int) := by decide
theorem mi_whole' {x : Int32} {j : Nat} (hx : x.toInt = j) (hj : j ≤ 20) : (mm_shr 1048576 x).toInt = ((2 ^ (20 - j) : Nat) : Int) := by
  have e : x = Int32.ofNat j := Int32.toInt_inj.mp (by rw [hx, Int32.toInt_ofNat_of_lt (by omega)])
  have h := mi_whole ⟨j, by omega⟩
  dsimp only at h
  rw [e]; exact h
/-- where a letter stands -/
def mc_pos (f : Nat → Nat) (n s : Nat) : Nat := mc_H f n (f s) + mc_ct f (f s) s
theorem mc_pos_lt {f : Nat → Nat} {n s : Nat} (h : s < n) (h0 : f s ≠ 0) : mc_pos f n s < mc_H f n (f s + 1) := by
  have h1 : mc_H f n (f s + 1) = mc_H f n (f s) + mc_ct f (f s) n := by
    show mc_H f n (f s) + mc_cn f n (f s) = _
    unfold mc_cn; rw [if_neg h0]
  have h2 := mc_ct_lt (f := f) h rfl
  unfold mc_pos; omega
theorem mc_pos_inj {f : Nat → Nat} {n a b : Nat} (ha : a < n) (hb : b < n) (ha0 : f a ≠ 0) (hb0 : f b ≠ 0) (h : mc_pos f n a = mc_pos f n b) : a = b := by
  have la := mc_pos_lt ha ha0
  have lb := mc_pos_lt hb hb0
  have ga : mc_H f n (f a) ≤ mc_pos f n a := Nat.le_add_right _ _
  have gb : mc_H f n (f b) ≤ mc_pos f n b := Nat.le_add_right _ _
  rcases Nat.lt_trichotomy (f a) (f b) with q | q | q
  · have := mc_H_mono (f := f) (n := n) (a := f a + 1) (f b) (by omega); omega
  · unfold mc_pos at h; rw [q] at h; exact mc_ct_inj q rfl (by omega)
  · have := mc_H_mono (f := f) (n := n) (a := f b + 1) (f a) (by omega); omega
section MK
variable {p cap n : Nat} {f : Nat → Nat} {vn : Int32}
theorem mq_makeA {M : mm_M} (hn : n ≤ cap) (hn3 : n ≤ 300) (hvn : vn.toInt = n) (hL : ∀ s, s < n → (M.1 (p + 1) s).toInt = f s) (hfl : ∀ s, s < n → f s ≤ 20) (h4 : M.1 p 4 = 0) (h5 : M.1 p 5 = 0) (h3 : ∀ i, i < 21 → M.1 (p + 3) i = 0) : mq_1 (mf_99_L30 p cap vn 0 M) (fun _ M2 => (∀ s, s < n → (M2.1 (p + 1) s).toInt = f s) ∧ (M2.1 p 4).toInt = mc_us f n ∧ (M2.1 p 5).toInt = mc_sp f n ∧ (∀ l : Nat, 1 ≤ l → l ≤ 20 → (M2.1 (p + 3) l).toInt = mc_ct f l n)) := by
  unfold mf_99_L30
  refine mq_1_L (I := fun (a : Int32) M2 => ∃ k : Nat, k ≤ n ∧ a.toInt = k ∧ (∀ s, s < n → (M2.1 (p + 1) s).toInt = f s) ∧ (M2.1 p 4).toInt = mc_us f k ∧ (M2.1 p 5).toInt = mc_sp f k ∧ (∀ l : Nat, 1 ≤ l → l ≤ 20 → (M2.1 (p + 3) l).toInt = mc_ct f l k)) (m := fun (a : Int32) _ => ((n : Int) - a.toInt).toNat) ?_ ⟨0, by omega, rfl, hL, by rw [h4]; rfl, by rw [h5]; rfl, fun l l0 l1 => by rw [h3 l (by omega)]; rfl⟩
  rintro x M2 ⟨k, hk, hx, hL, hu, hsp, hc⟩
  unfold mf_99_b30
  have e1 : k < n → (x + 1).toInt = ((k + 1 : Nat) : Int) := by intro q; rw [mi_add]; simp only [Int32.reduceToInt]; omega
  refine mq_1_ite (fun c => ?_) (fun c => ?_)
  · rw [Int32.lt_iff_toInt_lt, hvn] at c
    have e1 := e1 (by omega)
    have exn : x.toNatClampNeg = k := by rw [mq_cl]; omega
    rw [if_pos (mq_inr (by omega) (by omega)), exn]
    have hfk := hL k (by omega)
    have h20 := hfl k (by omega)
    refine mq_1_ite (fun d => ?_) (fun d => ?_)
    · rw [Int32.lt_iff_toInt_lt, hfk] at d
      simp only [Int32.reduceToInt] at d
      have f0 : f k ≠ 0 := by omega
      rw [if_neg (show ¬ 20 < M2.1 (p + 1) k from by rw [Int32.lt_iff_toInt_lt, hfk]; simp only [Int32.reduceToInt]; omega)]
      have hin : mm_in (M2.1 (p + 1) k) 21 = true := mq_inr (by omega) (by omega)
      have efn : (M2.1 (p + 1) k).toNatClampNeg = f k := by rw [mq_cl]; omega
      rw [if_pos hin, if_pos hin, efn, mq_pn (show p ≠ p + 3 from by omega)]
      have hub := mc_us_le (f := f) k
      have hsb := mc_sp_le (f := f) k
      have hcb := mc_ct_le (f := f) (l := f k) k
      refine mq_1_ret (.inl ⟨_, rfl, ⟨k + 1, by omega, e1, ?_, ?_, ?_, ?_⟩, by omega⟩)
      · intro s hs
        rw [mq_pn (by omega), mq_pn (by omega), mq_pn (by omega)]; exact hL s hs
      · rw [mq_pj (by decide), mq_ps, mi_add, hu]
        simp only [mc_us]; rw [if_neg f0]
        simp only [Int32.reduceToInt]; omega
      · rw [mq_ps, mq_pj (by decide), mq_pn (by omega), mi_add, hsp, mi_whole' hfk h20]
        simp only [mc_sp]; rw [if_neg f0]
        have : 2 ^ (20 - f k) ≤ 1048576 := Nat.le_trans (Nat.pow_le_pow_right (by decide) (Nat.sub_le _ _)) (Nat.le_of_eq (by rfl))
        generalize 2 ^ (20 - f k) = y at this ⊢
        omega
      · intro l l0 l1
        rw [mq_pn (by omega), mq_pn (by omega)]
        simp only [mc_ct]
        by_cases g : l = f k
        · rw [g, mq_ps, if_pos rfl, mi_add, hc (f k) (by omega) (by omega)]
          simp only [Int32.reduceToInt]; omega
        · rw [mq_pj g, hc l l0 l1, if_neg (fun q => g q.symm)]; rfl
    · rw [Int32.lt_iff_toInt_lt, hfk] at d
      simp only [Int32.reduceToInt] at d
      have f0 : f k = 0 := by omega
      refine mq_1_ret (.inl ⟨_, rfl, ⟨k + 1, by omega, e1, hL, ?_, ?_, ?_⟩, by omega⟩)
      · simp only [mc_us]; rw [if_pos f0]; exact hu
      · simp only [mc_sp]; rw [if_pos f0]; exact hsp
      · intro l l0 l1
        simp only [mc_ct]; rw [if_neg (by omega)]; exact hc l l0 l1
  · rw [Int32.lt_iff_toInt_lt, hvn] at c
    have : k = n := by omega
    subst this
    exact mq_1_ret (.inr ⟨_, rfl, hL, hu, hsp, hc⟩)
theorem mq_makeB {M : mm_M} (hn3 : n ≤ 300) (hc : ∀ l : Nat, 1 ≤ l → l ≤ 20 → (M.1 (p + 3) l).toInt = mc_ct f l n) (h0 : M.1 (p + 4) 0 = 0) : mq_1 (mf_99_L105 p cap vn 1 M) (fun _ M2 => (∀ l : Nat, 1 ≤ l → l ≤ 20 → (M2.1 (p + 4) l).toInt = mc_H f n l) ∧ mq_kp [(p + 4, none)] M M2) := by
  unfold mf_99_L105
  refine mq_1_L (I := fun (a : Int32) M2 => ∃ k : Nat, 1 ≤ k ∧ k ≤ 21 ∧ a.toInt = k ∧ (∀ l : Nat, l < k → (M2.1 (p + 4) l).toInt = mc_H f n l) ∧ mq_kp [(p + 4, none)] M M2) (m := fun (a : Int32) _ => (22 - a.toInt).toNat) ?_ ⟨1, by omega, by omega, rfl, fun l hl => by rw [show l = 0 from by omega, h0]; rfl, mq_kp_refl⟩
  rintro x M2 ⟨k, k1, k2, hx, hs, hkp⟩
  unfold mf_99_b105
  refine mq_1_ite (fun c => ?_) (fun c => ?_)
  · rw [Int32.lt_iff_toInt_lt] at c
    simp only [Int32.reduceToInt] at c
    exact mq_1_ret (.inr ⟨_, rfl, fun l l0 l1 => hs l (by omega), hkp⟩)
  · rw [Int32.lt_iff_toInt_lt] at c
    simp only [Int32.reduceToInt] at c
    have em : (x - 1).toInt = ((k - 1 : Nat) : Int) := by rw [mi_sub]; simp only [Int32.reduceToInt]; omega
    have emn : (x - 1).toNatClampNeg = k - 1 := by rw [mq_cl]; omega
    have hin : mm_in (x - 1) 21 = true := mq_inr (by omega) (by omega)
    have hin2 : mm_in x 21 = true := mq_inr (by omega) (by omega)
    have e1 : (x + 1).toInt = ((k + 1 : Nat) : Int) := by rw [mi_add]; simp only [Int32.reduceToInt]; omega
    have exn : x.toNatClampNeg = k := by rw [mq_cl]; omega
    have hH : mc_H f n k = mc_H f n (k - 1) + mc_cn f n (k - 1) := by
      have : k = k - 1 + 1 := by omega
      rw [this]; rfl
    have hb1 := mc_H_us (f := f) (l := k - 1) n
    have hb2 := mc_ct_le (f := f) (l := k - 1) n
    have fin : ∀ y : Int32, y.toInt = mc_cn f n (k - 1) → mq_1 (mf_99_j141 p cap vn x x (M2.1 (p + 4) (k - 1)) y M2) (fun r N => (∃ s2, r = .inl s2 ∧ (∃ k : Nat, 1 ≤ k ∧ k ≤ 21 ∧ s2.toInt = k ∧ (∀ l : Nat, l < k → (N.1 (p + 4) l).toInt = mc_H f n l) ∧ mq_kp [(p + 4, none)] M N) ∧ (22 - s2.toInt).toNat < (22 - x.toInt).toNat) ∨ (∃ z, r = .inr z ∧ ((∀ l : Nat, 1 ≤ l → l ≤ 20 → (N.1 (p + 4) l).toInt = mc_H f n l) ∧ mq_kp [(p + 4, none)] M N))) := by
      intro y hy
      unfold mf_99_j141
      rw [if_pos hin2, exn]
      refine mq_1_ret (.inl ⟨_, rfl, ⟨k + 1, by omega, by omega, e1, ?_, mq_kp_pi hkp (by simp [mq_ws])⟩, by omega⟩)
      intro l hl
      by_cases g : l = k
      · subst g
        rw [mq_ps, mi_add, hs (l - 1) (by omega), hy, hH]
        unfold mc_cn
        split <;> omega
      · rw [mq_pj g]; exact hs l (by omega)
    rw [if_pos hin, emn]
    refine mq_1_ite (fun d => ?_) (fun d => ?_)
    · rw [Int32.lt_iff_toInt_lt] at d
      simp only [Int32.reduceToInt] at d
      rw [if_pos hin]
      refine fin _ ?_
      rw [(hkp (p + 3) (k - 1) (by simp [mq_ws])).1, hc (k - 1) (by omega) (by omega)]
      unfold mc_cn; rw [if_neg (by omega)]
    · rw [Int32.lt_iff_toInt_lt] at d
      simp only [Int32.reduceToInt] at d
      have : k = 1 := by omega
      subst this
      exact fin 0 rfl
theorem mq_makeC {M : mm_M} (hn : n ≤ cap) (hn3 : n ≤ 300) (hvn : vn.toInt = n) (hL : ∀ s, s < n → (M.1 (p + 1) s).toInt = f s) (hfl : ∀ s, s < n → f s ≤ 20) (hs : ∀ l : Nat, 1 ≤ l → l ≤ 20 → (M.1 (p + 4) l).toInt = mc_H f n l) : mq_1 (mf_99_L151 p cap vn 0 M) (fun _ M2 => (∀ s : Nat, s < n → f s ≠ 0 → (M2.1 (p + 2) (mc_pos f n s)).toInt = s) ∧ mq_kp [(p + 2, none), (p + 4, none)] M M2) := by
  unfold mf_99_L151
  refine mq_1_L (I := fun (a : Int32) M2 => ∃ k : Nat, k ≤ n ∧ a.toInt = k ∧ (∀ l : Nat, 1 ≤ l → l ≤ 20 → (M2.1 (p + 4) l).toInt = ((mc_H f n l + mc_ct f l k : Nat) : Int)) ∧ (∀ s : Nat, s < k → f s ≠ 0 → (M2.1 (p + 2) (mc_pos f n s)).toInt = s) ∧ mq_kp [(p + 2, none), (p + 4, none)] M M2) (m := fun (a : Int32) _ => ((n : Int) - a.toInt).toNat) ?_ ⟨0, by omega, rfl, hs, fun s h => by omega, mq_kp_refl⟩
  rintro x M2 ⟨k, hk, hx, hst, hle, hkp⟩
  unfold mf_99_b151
  have hL2 : ∀ s, s < n → (M2.1 (p + 1) s).toInt = f s := by
    intro s h; rw [(hkp (p + 1) s (by simp [mq_ws])).1]; exact hL s h
  refine mq_1_ite (fun c => ?_) (fun c => ?_)
  · rw [Int32.lt_iff_toInt_lt, hvn] at c
    have e1 : (x + 1).toInt = ((k + 1 : Nat) : Int) := by rw [mi_add]; simp only [Int32.reduceToInt]; omega
    have exn : x.toNatClampNeg = k := by rw [mq_cl]; omega
    rw [if_pos (mq_inr (by omega) (by omega)), exn]
    have hfk := hL2 k (by omega)
    have h20 := hfl k (by omega)
    refine mq_1_ite (fun d => ?_) (fun d => ?_)
    · rw [Int32.lt_iff_toInt_lt, hfk] at d
      simp only [Int32.reduceToInt] at d
      have f0 : f k ≠ 0 := by omega
      rw [if_neg (show ¬ 20 < M2.1 (p + 1) k from by rw [Int32.lt_iff_toInt_lt, hfk]; simp only [Int32.reduceToInt]; omega)]
      have hin : mm_in (M2.1 (p + 1) k) 21 = true := mq_inr (by omega) (by omega)
      have efn : (M2.1 (p + 1) k).toNatClampNeg = f k := by rw [mq_cl]; omega
      have hsk := hst (f k) (by omega) (by omega)
      have hpl := mc_pos_lt (f := f) (n := n) (s := k) (by omega) f0
      have hHb := mc_H_us (f := f) (l := f k + 1) n
      have hpe : mc_H f n (f k) + mc_ct f (f k) k = mc_pos f n k := rfl
      rw [hpe] at hsk
      have hin2 : mm_in (M2.1 (p + 4) (f k)) cap = true := mq_inr (by omega) (by omega)
      have epn : (M2.1 (p + 4) (f k)).toNatClampNeg = mc_pos f n k := by rw [mq_cl]; omega
      rw [if_pos hin, efn, if_pos hin2, if_pos hin, if_pos hin, epn, mq_pn (show p + 4 ≠ p + 2 from by omega)]
      refine mq_1_ret (.inl ⟨_, rfl, ⟨k + 1, by omega, e1, ?_, ?_, mq_kp_pi (mq_kp_pi hkp (by simp [mq_ws])) (by simp [mq_ws])⟩, by omega⟩)
      · intro l l0 l1
        simp only [mc_ct]
        by_cases g : l = f k
        · rw [g, mq_ps, if_pos rfl, mi_add, hsk]
          unfold mc_pos at hpl ⊢
          simp only [Int32.reduceToInt]; omega
        · rw [mq_pj g, mq_pn (by omega), hst l l0 l1, if_neg (fun q => g q.symm)]; rfl
      · intro s hs1 hs0
        rw [mq_pn (show p + 2 ≠ p + 4 from by omega)]
        by_cases g : s = k
        · rw [g, mq_ps]; exact hx
        · rw [mq_pj (fun q => g (mc_pos_inj (by omega) (by omega) hs0 f0 q))]
          exact hle s (by omega) hs0
    · rw [Int32.lt_iff_toInt_lt, hfk] at d
      simp only [Int32.reduceToInt] at d
      have f0 : f k = 0 := by omega
      refine mq_1_ret (.inl ⟨_, rfl, ⟨k + 1, by omega, e1, ?_, ?_, hkp⟩, by omega⟩)
      · intro l l0 l1
        simp only [mc_ct]; rw [if_neg (by omega)]; exact hst l l0 l1
      · intro s hs1 hs0
        by_cases g : s = k
        · subst g; exact absurd f0 hs0
        · exact hle s (by omega) hs0
  · rw [Int32.lt_iff_toInt_lt, hvn] at c
    have : k = n := by omega
    subst this
    exact mq_1_ret (.inr ⟨_, rfl, hle, hkp⟩)
theorem mq_make {M : mm_M} (hcap : cap < 100000) (hn : n ≤ cap) (hn3 : n ≤ 300) (hvn : vn.toInt = n) (hL : ∀ s, s < n → (M.1 (p + 1) s).toInt = f s) (hfl : ∀ s, s < n → f s ≤ 20) : mq_1 (mf_99 p cap vn M) (fun _ M2 => mq_TC p f n M2) := by
  unfold mf_99
  have emin : mm_min vn (Int32.ofNat cap) = vn := by
    unfold mm_min
    by_cases c : Int32.ofNat cap < vn
    · rw [if_pos c]
      rw [Int32.lt_iff_toInt_lt, Int32.toInt_ofNat_of_lt (by omega)] at c
      omega
    · rw [if_neg c]
  rw [emin]
  refine mq_1_B (mq_fill (by omega)) ?_
  rintro _ M1 ⟨hz, k1⟩
  refine mq_1_B (mq_makeA hn hn3 hvn (f := f) ?_ hfl ?_ ?_ ?_) ?_
  · intro s h
    rw [mq_pn (by omega), mq_pn (by omega), (k1 (p + 1) s (by simp [mq_ws])).1]; exact hL s h
  · rw [mq_pj (by decide), mq_ps]
  · rw [mq_ps]
  · intro i hi
    rw [mq_pn (by omega), mq_pn (by omega)]; exact hz i hi
  · rintro _ M2 ⟨hL2, hu, hsp, hc⟩
    unfold mf_99_j96
    rw [if_pos (by decide)]
    refine mq_1_B (mq_makeB (f := f) (n := n) hn3 ?_ ?_) ?_
    · intro l l0 l1
      rw [mq_pn (by omega)]; exact hc l l0 l1
    · exact mq_ps
    · rintro _ M3 ⟨hst, k3⟩
      refine mq_1_B (mq_makeC (f := f) hn hn3 hvn ?_ hfl hst) ?_
      · intro s h
        rw [(k3 (p + 1) s (by simp [mq_ws])).1, mq_pn (by omega)]; exact hL2 s h
      · rintro _ M4 ⟨hle, k4⟩
        refine mq_1_ret ⟨?_, ?_, ?_, hle⟩
        · rw [(k4 p 4 (by simp [mq_ws])).1, (k3 p 4 (by simp [mq_ws])).1, mq_pn (by omega)]; exact hu
        · rw [(k4 p 5 (by simp [mq_ws])).1, (k3 p 5 (by simp [mq_ws])).1, mq_pn (by omega)]; exact hsp
        · intro l l0 l1
          rw [(k4 (p + 3) l (by simp [mq_ws])).1, (k3 (p + 3) l (by simp [mq_ws])).1, mq_pn (by omega)]; exact hc l l0 l1
end MK
