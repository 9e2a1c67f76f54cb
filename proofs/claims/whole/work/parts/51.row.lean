/-! BLOCKS: the row of lengths, in step -/
def mc_rw (i : Nat) : Nat := (mm_row i).toInt.toNat
theorem mc_rw_a : ∀ i : Fin 19, (mm_row i.val).toInt = mc_rw i.val ∧ mc_rw i.val < 19 := by decide
theorem mc_rw_i : ∀ i j : Fin 19, mc_rw i.val = mc_rw j.val → i.val = j.val := by decide
theorem mc_rw_s : ∀ s : Fin 19, ∃ i : Fin 19, mc_rw i.val = s.val := by decide
theorem mc_rw1 {i : Nat} (h : i < 19) : (mm_row i).toInt = mc_rw i ∧ mc_rw i < 19 := mc_rw_a ⟨i, h⟩
theorem mc_rw2 {i j : Nat} (hi : i < 19) (hj : j < 19) (h : mc_rw i = mc_rw j) : i = j := mc_rw_i ⟨i, hi⟩ ⟨j, hj⟩ h
theorem mc_rw3 {s : Nat} (h : s < 19) : ∃ i, i < 19 ∧ mc_rw i = s := by
  obtain ⟨i, hi⟩ := mc_rw_s ⟨s, h⟩
  exact ⟨i.val, i.isLt, hi⟩
def mq_RW (N : mm_M) : Prop := ∀ i : Nat, i < 19 → N.1 89 i = mm_row i
/-- assigning, whatever the lengths are -/
theorem md_199 {A N : mm_M} {tt nn : Int32} {t n : Nat} (g : mq_ob A N) (ht : t ≤ 6) (hn : n ≤ 300) (htt : tt.toInt = t) (hnn : nn.toInt = n) : mq_D A (mf_199 tt nn N) := by
  have e300 : ((300 : Int32) * tt).toInt = ((300 * t : Nat) : Int) := by rw [mi_mul, htt]; simp only [Int32.reduceToInt]; omega
  have eend : ((300 : Int32) * tt + nn).toInt = ((300 * t + n : Nat) : Int) := by rw [mi_add, e300, hnn]; omega
  unfold mf_199
  refine mq_d_B ?_ (fun _ _ g => mq_d_ret g)
  unfold mf_199_L5
  refine mq_d_Lc (I := fun (s : Int32 × Int32) => 1 ≤ s.2.toInt) (m := fun (s : Int32 × Int32) => (22 - s.2.toInt).toNat) ?_ (by decide) g
  rintro ⟨c, l⟩ N h g
  dsimp only at h
  unfold mf_199_b5
  dsimp only
  refine mq_1_ite (fun _ => mq_1_ret ⟨.inr ⟨_, rfl⟩, g⟩) (fun d => ?_)
  rw [Int32.lt_iff_toInt_lt] at d
  simp only [Int32.reduceToInt] at d
  have inner : mq_D A (mf_199_L19 tt nn l (c, (300 : Int32) * tt) N) := by
    unfold mf_199_L19
    refine mq_d_Lc (I := fun (s : Int32 × Int32) => 0 ≤ s.2.toInt) (m := fun (s : Int32 × Int32) => (((300 * t + n : Nat) : Int) - s.2.toInt).toNat) ?_ (by dsimp only; omega) g
    rintro ⟨c, x⟩ N h g
    dsimp only at h
    unfold mf_199_b19
    dsimp only
    refine mq_1_ite (fun d => ?_) (fun _ => mq_1_ret ⟨.inr ⟨_, rfl⟩, g⟩)
    rw [Int32.lt_iff_toInt_lt, eend] at d
    have e1 : (x + 1).toInt = x.toInt + 1 := by rw [mi_add]; simp only [Int32.reduceToInt]; omega
    have hin : mm_in x 2100 = true := mq_inr (by omega) (by omega)
    rw [if_pos hin, if_pos hin]
    exact mq_1_ite (fun _ => mq_1_ret ⟨.inl ⟨_, rfl, by dsimp only; omega, by dsimp only; omega⟩, mq_ob_pi g rfl⟩) (fun _ => mq_1_ret ⟨.inl ⟨_, rfl, by dsimp only; omega, by dsimp only; omega⟩, g⟩)
  have e1 : (l + 1).toInt = l.toInt + 1 := by rw [mi_add]; simp only [Int32.reduceToInt]; omega
  exact mq_1_B inner (fun _ _ g => mq_1_ret ⟨.inl ⟨_, rfl, by dsimp only; omega, by dsimp only; omega⟩, g⟩)
theorem mq_RW_kp {N N2 : mm_M} {w : List (Nat × Option Nat)} (h : mq_RW N) (k : mq_kp w N N2) (hw : w.all (fun e => decide (e.1 < 89) || decide (89 < e.1)) = true) : mq_RW N2 := fun i hi => by rw [(k 89 i (mq_ws_out hw (by decide) (by decide))).1]; exact h i hi
theorem md_206_L78 {A N : mm_M} {n k : Int32} (hz : mq_Z A) (g : mq_ob A N) (hr : mq_RW N) (hk : 0 ≤ k.toInt) : mq_1 (mf_206_L78 n k N) (fun _ N2 => mq_ob A N2) := by
  unfold mf_206_L78
  refine mq_1_L (I := fun (a : Int32) N2 => 0 ≤ a.toInt ∧ mq_ob A N2 ∧ mq_RW N2) (m := fun (a : Int32) _ => (19 - a.toInt).toNat) ?_ ⟨hk, g, hr⟩
  rintro x N2 ⟨x0, g, hr⟩
  unfold mf_206_b78
  refine mq_1_ite (fun c => ?_) (fun _ => mq_1_ret (.inr ⟨_, rfl, g⟩))
  rw [Int32.lt_iff_toInt_lt] at c
  simp only [Int32.reduceToInt] at c
  have e1 : (x + 1).toInt = x.toInt + 1 := by rw [mi_add]; simp only [Int32.reduceToInt]; omega
  have exn : x.toNatClampNeg < 19 := by rw [mq_cl]; omega
  obtain ⟨r1, r2⟩ := mc_rw1 exn
  have e6 : ((600 : Int32) + N2.1 89 x.toNatClampNeg).toInt = 600 + mc_rw x.toNatClampNeg := by rw [hr _ exn, mi_add, r1]; simp only [Int32.reduceToInt]; omega
  rw [if_pos (mq_inr x0 (by omega))]
  have fin : ∀ {N3 : mm_M} (y : Int32), mq_ob A N3 → mq_RW N3 → mq_1 (mf_206_j113 n x ((600 : Int32) + N2.1 89 x.toNatClampNeg) y N3) (fun r N => (∃ s2, r = .inl s2 ∧ (0 ≤ s2.toInt ∧ mq_ob A N ∧ mq_RW N) ∧ (19 - s2.toInt).toNat < (19 - x.toInt).toNat) ∨ (∃ z, r = .inr z ∧ mq_ob A N)) := by
    intro N3 y g3 hr3
    unfold mf_206_j113
    rw [if_pos (mq_inr (by omega) (by omega))]
    exact mq_1_ret (.inl ⟨_, rfl, ⟨by omega, mq_ob_pi g3 rfl, fun i hi => by rw [mq_pn (by decide)]; exact hr3 i hi⟩, by omega⟩)
  refine mq_1_ite (fun _ => ?_) (fun _ => fin 0 g hr)
  refine mq_1_B (mq_1_K (mq_d_c hz g (fun z => md_198 z)) mk_198) ?_
  rintro y N3 ⟨g3, k3⟩
  exact fin _ g3 (mq_RW_kp hr k3 rfl)
theorem md_206_j142 {A N : mm_M} (hz : mq_Z A) (g : mq_ob A N) : mq_D A (mf_206_j142 N) := by
  unfold mf_206_j142
  refine mq_d_B (md_199 (t := 2) (n := 19) g (by omega) (by omega) rfl rfl) (fun _ _ g => ?_)
  exact mq_d_B (mq_d_c hz g (fun z => md_207 z)) (fun _ _ g => mq_d_w hz g (mq_d_ret g))
theorem md_206_j120 {A N : mm_M} (hz : mq_Z A) (g : mq_ob A N) : mq_D A (mf_206_j120 N) := by
  unfold mf_206_j120
  exact mq_d_w hz g (md_206_j142 hz g)
theorem md_206_j67 {A N : mm_M} (hz : mq_Z A) (g : mq_ob A N) (hr : mq_RW N) : mq_D A (mf_206_j67 N) := by
  unfold mf_206_j67
  refine mq_1_B (mq_1_K (mq_d_c hz g (fun z => md_198 z)) mk_198) ?_
  rintro _ N2 ⟨g2, k2⟩
  exact mq_1_B (md_206_L78 hz g2 (mq_RW_kp hr k2 rfl) (by decide)) (fun _ _ g => md_206_j120 hz g)
theorem md_206_j35 {A N : mm_M} (hz : mq_Z A) (g : mq_ob A N) (hr : mq_RW N) : mq_D A (mf_206_j35 N) := by
  unfold mf_206_j35
  refine mq_1_B (mq_1_K (mq_d_c hz g (fun z => md_198 z)) mk_198) ?_
  rintro _ N2 ⟨g2, k2⟩
  refine mq_d_w hz g2 (md_206_j67 hz (mq_ob_pi g2 rfl) ?_)
  intro i hi
  rw [mq_pn (by decide)]; exact mq_RW_kp hr k2 rfl i hi
theorem md_206_j276 {A N : mm_M} {a b : Nat} (g : mq_ob A N) (h20 : (N.1 84 20).toInt = a) (h21 : (N.1 84 21).toInt = b) (ha : a ≤ 300) (hb : b ≤ 300) : mq_D A (mf_206_j276 N) := by
  unfold mf_206_j276
  refine mq_1_B (mq_1_K (md_199 (t := 0) (n := a) g (by omega) ha rfl h20) mk_199) ?_
  rintro _ N2 ⟨g2, k2⟩
  refine mq_d_B (md_199 (t := 1) (n := b) g2 (by omega) hb rfl ?_) (fun _ _ g => mq_d_ret g)
  rw [(k2 84 21 rfl).1]; exact h21
/-- a stretch of one length is put into the row -/
theorem mq_rowP {M N : mm_M} {at_ all what tm : Int32} (hS : mq_S M N) (a0 : 0 ≤ at_.toInt) (h0 : 0 ≤ tm.toInt) (h1 : at_.toInt + tm.toInt ≤ 320) (hv : ∀ j : Nat, (j : Int) < at_.toInt → M.1 32 j = N.1 90 j ∧ 0 ≤ (M.1 32 j).toInt ∧ (M.1 32 j).toInt ≤ 15) (w0 : 0 ≤ what.toInt) (w1 : what.toInt ≤ 15) : mq_2 mq_F (mf_84_L151 all what tm (at_, (0 : Int32)) M) (mf_207_L150 all tm what (at_, (0 : Int32)) N) (fun r M2 t N2 => r = t ∧ r.toInt = at_.toInt + tm.toInt ∧ (∀ j : Nat, (j : Int) < r.toInt → M2.1 32 j = N2.1 90 j ∧ 0 ≤ (M2.1 32 j).toInt ∧ (M2.1 32 j).toInt ≤ 15) ∧ mq_kp [(32, none)] M M2 ∧ mq_kp [(90, none)] N N2) := by
  unfold mf_84_L151 mf_207_L150
  refine mq_2_Lf (I := fun (a : Int32 × Int32) M2 (b : Int32 × Int32) N2 => a = b ∧ 0 ≤ a.2.toInt ∧ a.2.toInt ≤ tm.toInt ∧ a.1.toInt = at_.toInt + a.2.toInt ∧ (∀ j : Nat, (j : Int) < a.1.toInt → M2.1 32 j = N2.1 90 j ∧ 0 ≤ (M2.1 32 j).toInt ∧ (M2.1 32 j).toInt ≤ 15) ∧ mq_kp [(32, none)] M M2 ∧ mq_kp [(90, none)] N N2) (m := fun (a : Int32 × Int32) _ => (tm.toInt - a.2.toInt).toNat) ?_ ⟨rfl, (by decide : 0 ≤ (0 : Int32).toInt), h0, by simp only [Int32.reduceToInt]; omega, hv, mq_kp_refl, mq_kp_refl⟩
  rintro ⟨x, i⟩ M2 b N2 ⟨rfl, i0, i1, hx, hv, k1, k2⟩
  dsimp only at i0 i1 hx hv
  unfold mf_84_b151 mf_207_b150
  dsimp only
  by_cases c : i < tm
  · rw [if_pos c, if_pos c, if_pos (show N2.1 84 7 = 0 from by rw [(k2 84 7 rfl).1]; exact hS.2.2.2.2.1)]
    rw [Int32.lt_iff_toInt_lt] at c
    have e1 : (i + 1).toInt = i.toInt + 1 := by rw [mi_add]; simp only [Int32.reduceToInt]; omega
    have e2 : (x + 1).toInt = x.toInt + 1 := by rw [mi_add]; simp only [Int32.reduceToInt]; omega
    rw [if_pos (mq_inr (by omega) (by omega)), if_pos (mq_inr (by omega) (by omega))]
    refine mq_2_ret (.inl ⟨_, _, rfl, rfl, ⟨rfl, by dsimp only; omega, by dsimp only; omega, by dsimp only; omega, ?_, mq_kp_pi k1 rfl, mq_kp_pi k2 rfl⟩, by dsimp only; omega⟩)
    intro j hj
    dsimp only at hj
    by_cases q : j = x.toNatClampNeg
    · rw [q, mq_ps, mq_ps]; exact ⟨rfl, w0, w1⟩
    · rw [mq_pj q, mq_pj q]
      rw [mq_cl] at q
      exact hv j (by omega)
  · rw [if_neg c, if_neg c]
    rw [Int32.lt_iff_toInt_lt] at c
    exact mq_2_ret (.inr ⟨_, _, rfl, rfl, rfl, by omega, hv, k1, k2⟩)
theorem mq_F_X {α β : Type} {x : mm_O α} {y : mm_O β} {Q : α → mm_M → β → mm_M → Prop} {E : mm_M → β → mm_M → Prop} (h : mq_2 mq_F x y Q) : mq_2 E x y Q := mq_2_mono h (fun _ _ _ _ q => q) (fun _ _ _ q => q.elim)
