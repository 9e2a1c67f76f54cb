/-! THE LAW: what a call keeps, how often it throws -/
def mq_M {α : Type} (t : Nat) (x : mm_O α) : Prop := ∀ q, x = some q → q.2.2.2 ≤ t + 1
section MMM
variable {α β : Type} {t : Nat}
theorem mq_M_N {x : mm_O α} (h : mq_N t x) : mq_M t x := by
  rintro ⟨r, N⟩ e
  have := h _ e
  cases r with
  | inl a => have := this.1 a rfl; dsimp only at this ⊢; omega
  | inr n => have := this.2 n rfl; dsimp only at this ⊢; omega
theorem mq_M_B {x : mm_O α} {f : α → mm_M → mm_O β} (hx : mq_N t x) (hf : ∀ a N, N.2.2 = t → mq_M t (f a N)) : mq_M t (mm_B x f) := by
  intro q e
  match x, hx, e with
  | some (.inl a, N), hx, e => exact hf a N ((hx _ rfl).1 a rfl) q e
  | some (.inr n, N), hx, e => cases e; have := (hx _ rfl).2 n rfl; dsimp only at this ⊢; omega
theorem mq_M_ite {c : Prop} {i : Decidable c} {a b : mm_O α} (ha : mq_M t a) (hb : mq_M t b) : mq_M t (@ite (mm_O α) c i a b) := by
  by_cases hc : c
  · rw [if_pos hc]; exact ha
  · rw [if_neg hc]; exact hb
theorem mq_M_Bc {x : mm_O α} {f : α → mm_M → mm_O β} {X : Nat} {c : mm_M → mm_O β} (hx : mq_M t x) (hf : ∀ a N q, f a N = some q → q.2.2.2 = N.2.2) (hc : ∀ N q, c N = some q → q.2.2.2 = N.2.2) : mq_M t (mm_Bc x f X c) := by
  intro q e
  match x, hx, e with
  | some (.inl a, N), hx, e => have := hf a N q e; have := hx _ rfl; dsimp only at this; omega
  | some (.inr n, N), hx, e =>
    simp only [mm_Bc] at e
    split at e
    · have := hc N q e; have := hx _ rfl; dsimp only at this; omega
    · cases e
theorem mq_M_w {x : mm_O Int32} {X : Nat} (hx : mq_M t x) : mq_M t (mq_w x X) := mq_M_Bc hx (fun a N q e => by rw [if_pos (by decide)] at e; cases e; rfl) (fun N q e => by cases e; rfl)
end MMM
theorem mq_ws_c {w : List (Nat × Option Nat)} (h : w.all (fun e => decide (e.1 < 84) || decide (109 < e.1)) = true) {p i : Nat} (h1 : 84 ≤ p) (h2 : p ≤ 109) : mq_ws w p i = false := by
  rw [Bool.eq_false_iff]
  intro q
  simp only [mq_ws, List.any_eq_true, Bool.and_eq_true, beq_iff_eq] at q
  obtain ⟨e, he, hp, -⟩ := q
  have := List.all_eq_true.mp h e he
  simp only [Bool.or_eq_true, decide_eq_true_eq] at this
  omega
theorem mq_ws_r {w : List (Nat × Option Nat)} (h : w.all (fun e => decide (84 ≤ e.1) && decide (e.1 ≤ 109)) = true) {p i : Nat} (h1 : p < 84 ∨ 109 < p) : mq_ws w p i = false := by
  rw [Bool.eq_false_iff]
  intro q
  simp only [mq_ws, List.any_eq_true, Bool.and_eq_true, beq_iff_eq] at q
  obtain ⟨e, he, hp, -⟩ := q
  have := List.all_eq_true.mp h e he
  simp only [Bool.and_eq_true, decide_eq_true_eq] at this
  omega
theorem mq_J_c {M N N2 : mm_M} (h : mq_J M N) (e : ∀ p i, 84 ≤ p → p ≤ 109 → N2.1 p i = N.1 p i) : mq_J M N2 := by
  have e2 : ∀ p, 84 ≤ p → p ≤ 109 → N2.1 p = N.1 p := fun p h1 h2 => funext (fun i => e p i h1 h2)
  unfold mq_J mq_T mq_U mq_V mq_RW at h ⊢
  rw [e2 84 (by decide) (by decide), e2 85 (by decide) (by decide), e2 86 (by decide) (by decide), e2 89 (by decide) (by decide), e2 101 (by decide) (by decide)]
  exact h
theorem mq_J_r {M N M2 : mm_M} (h : mq_J M N) (e : ∀ p i, p < 84 ∨ 109 < p → M2.1 p i = M.1 p i) : mq_J M2 N := by
  have e2 : ∀ p, p < 84 ∨ 109 < p → M2.1 p = M.1 p := fun p h1 => funext (fun i => e p i h1)
  unfold mq_J mq_T mq_U mq_V at h ⊢
  rw [e2 1 (by decide), e2 2 (by decide), e2 3 (by decide), e2 4 (by decide)]
  exact h
theorem mq_case {β : Type} {x : mm_M → mm_O Int32} {y : mm_M → mm_O β} {Q : Int32 → mm_M → β → mm_M → Prop} {wc wr : List (Nat × Option Nat)} {K : mm_M} (S : ∀ M N, mq_J M N → mq_2 mq_F (x M) (y N) Q) (hQ : ∀ a M b N, Q a M b N → mq_J M N) (kC : mq_K wc K (x K)) (hc : wc.all (fun e => decide (e.1 < 84) || decide (109 < e.1)) = true) (kR : ∀ N, mq_K wr N (y N)) (hr : wr.all (fun e => decide (84 ≤ e.1) && decide (e.1 ≤ 109)) = true) (nC : mq_M K.2.2 (x K)) (nR : ∀ N, mq_N N.2.2 (y N)) (J : mq_J K K) : ∃ r1 K1 b K2, x K = some (.inl r1, K1) ∧ y K1 = some (.inl b, K2) ∧ Q r1 K1 b K2 ∧ (∀ p i, p < 84 ∨ 109 < p → K2.1 p i = K1.1 p i ∧ K2.2.1 p i = K1.2.1 p i) ∧ mq_J K2 K2 ∧ K2.2.2 ≤ K.2.2 + 1 := by
  obtain ⟨b0, N0, -, q⟩ := S K K J
  rcases q with ⟨r1, K1, x1, -⟩ | ⟨_, _, q⟩
  · have c1 := kC _ x1
    have J1 : mq_J K K1 := mq_J_c J (fun p i h1 h2 => (c1 p i (mq_ws_c hc h1 h2)).1)
    obtain ⟨b, K2, y1, q⟩ := S K K1 J1
    rcases q with ⟨r2, K3, x2, q⟩ | ⟨_, _, q⟩
    · rw [x1] at x2
      cases x2
      have c2 := kR K1 _ y1
      have n1 := nC _ x1
      have n2 := (nR K1 _ y1).1 b rfl
      dsimp only at n1 n2
      have k2 : ∀ p i, p < 84 ∨ 109 < p → K2.1 p i = K1.1 p i ∧ K2.2.1 p i = K1.2.1 p i := fun p i h => c2 p i (mq_ws_r hr h)
      exact ⟨r1, K1, b, K2, x1, y1, q, k2, mq_J_r (hQ _ _ _ _ q) (fun p i h => (k2 p i h).1), by omega⟩
    · exact q.elim
  · exact q.elim
theorem mn_17 {v1 : Int32} {M : mm_M} : mq_M M.2.2 (mf_17 v1 M) := by
  unfold mf_17
  refine mq_M_B mn_26 (fun _ M1 h1 => mq_M_B (mq_N_call mn_40 h1) (fun _ M2 h2 => mq_M_B (mq_N_call mn_49 h2) (fun _ M3 h3 => ?_)))
  have fin : ∀ (a : Unit) (N : mm_M) (q : (Int32 ⊕ Nat) × mm_M), (some (.inl (N.1 3 1), N) : mm_O Int32) = some q → q.2.2.2 = N.2.2 := fun a N q e => by cases e; rfl
  have fin2 : ∀ (N : mm_M) (q : (Int32 ⊕ Nat) × mm_M), (some (.inl ((-1 : Int32) - (N.1 1 2)), N) : mm_O Int32) = some q → q.2.2.2 = N.2.2 := fun N q e => by cases e; rfl
  exact mq_M_ite (mq_M_Bc (mq_M_N (mq_N_call mn_117 h3)) fin fin2) (mq_M_ite (mq_M_Bc (mq_M_N (mq_N_call mn_79 h3)) fin fin2) (mq_M_ite (mq_M_Bc (mq_M_N (mq_N_call mn_75 h3)) fin fin2) (mq_M_ite (mq_M_Bc (mq_M_N (mq_N_call mn_76 h3)) fin fin2) (mq_M_ite (mq_M_Bc (mq_M_N (mq_N_call mn_107 h3)) fin fin2) (mq_M_ite (mq_M_Bc (mq_M_N (mq_N_call mn_108 h3)) fin fin2) (mq_M_ite (mq_M_Bc (mq_M_N (mq_N_call mn_118 h3)) fin fin2) (mq_M_ite (mq_M_Bc (mq_M_N (mq_N_call mn_121 h3)) fin fin2) (mq_M_ite (mq_M_Bc (mq_M_N (mq_N_call mn_124 h3)) fin fin2) (mq_M_ite (mq_M_Bc (mq_M_N (mq_N_call mn_137 h3)) fin fin2) (mq_M_Bc (mq_M_N (mq_N_call mn_159 h3)) fin fin2))))))))))
set_option maxRecDepth 20000 in
theorem mk_0 {v1 : Int32} {v2 : Int32} {v3 : Int32} {v4 : Int32} {v5 : Int32} {M : mm_M} : mq_K ((110, none) :: mw_13) M (mf_0 v1 v2 v3 v4 v5 M) := by
  unfold mf_0
  exact mq_K_Bc (mq_K_call mk_13 mq_kp_refl rfl) (fun _ N h => mq_K_ite (fun _ => mq_K_ret (mq_kp_pl h rfl)) (fun _ => mq_K_none)) (fun N h => mq_K_ret h)
theorem mn_0 {v1 : Int32} {v2 : Int32} {v3 : Int32} {v4 : Int32} {v5 : Int32} {M : mm_M} : mq_M M.2.2 (mf_0 v1 v2 v3 v4 v5 M) := mq_M_w (mq_M_N mn_13)
set_option maxRecDepth 20000 in
theorem mk_1 {v1 : Int32} {M : mm_M} : mq_K ((110, none) :: mw_14) M (mf_1 v1 M) := by
  unfold mf_1
  exact mq_K_Bc (mq_K_call mk_14 mq_kp_refl rfl) (fun _ N h => mq_K_ret h) (fun N h => mq_K_ret h)
theorem mn_1 {v1 : Int32} {M : mm_M} : mq_M M.2.2 (mf_1 v1 M) := by
  unfold mf_1
  exact mq_M_Bc (mq_M_N mn_14) (fun a N q e => by cases e; rfl) (fun N q e => by cases e; rfl)
set_option maxRecDepth 20000 in
theorem mk_2 {v1 : Int32} {v2 : Int32} {M : mm_M} : mq_K ((110, none) :: mw_15) M (mf_2 v1 v2 M) := by
  unfold mf_2
  exact mq_K_Bc (mq_K_call mk_15 mq_kp_refl rfl) (fun _ N h => mq_K_ite (fun _ => mq_K_ret (mq_kp_pl h rfl)) (fun _ => mq_K_none)) (fun N h => mq_K_ret h)
theorem mn_2 {v1 : Int32} {v2 : Int32} {M : mm_M} : mq_M M.2.2 (mf_2 v1 v2 M) := mq_M_w (mq_M_N mn_15)
set_option maxRecDepth 20000 in
theorem mk_3 {M : mm_M} : mq_K ((110, none) :: mw_16) M (mf_3 M) := by
  unfold mf_3
  exact mq_K_Bc (mq_K_call mk_16 mq_kp_refl rfl) (fun _ N h => mq_K_ite (fun _ => mq_K_ret (mq_kp_pl h rfl)) (fun _ => mq_K_none)) (fun N h => mq_K_ret h)
theorem mn_3 {M : mm_M} : mq_M M.2.2 (mf_3 M) := mq_M_w (mq_M_N mn_16)
set_option maxRecDepth 20000 in
theorem mk_4 {v1 : Int32} {M : mm_M} : mq_K ((110, none) :: mw_17) M (mf_4 v1 M) := by
  unfold mf_4
  exact mq_K_Bc (mq_K_call mk_17 mq_kp_refl rfl) (fun _ N h => mq_K_ite (fun _ => mq_K_ret (mq_kp_pl h rfl)) (fun _ => mq_K_none)) (fun N h => mq_K_ret h)
theorem mn_4 {v1 : Int32} {M : mm_M} : mq_M M.2.2 (mf_4 v1 M) := mq_M_w mn_17
set_option maxRecDepth 20000 in
theorem mk_5 {v1 : Int32} {M : mm_M} : mq_K ((110, none) :: mw_18) M (mf_5 v1 M) := by
  unfold mf_5
  exact mq_K_Bc (mq_K_call mk_18 mq_kp_refl rfl) (fun _ N h => mq_K_ite (fun _ => mq_K_ret (mq_kp_pl h rfl)) (fun _ => mq_K_none)) (fun N h => mq_K_ret h)
theorem mn_5 {v1 : Int32} {M : mm_M} : mq_M M.2.2 (mf_5 v1 M) := mq_M_w (mq_M_N mn_18)
set_option maxRecDepth 20000 in
theorem mk_6 {v1 : Int32} {M : mm_M} : mq_K ((110, none) :: mw_19) M (mf_6 v1 M) := by
  unfold mf_6
  exact mq_K_Bc (mq_K_call mk_19 mq_kp_refl rfl) (fun _ N h => mq_K_ite (fun _ => mq_K_ret (mq_kp_pl h rfl)) (fun _ => mq_K_none)) (fun N h => mq_K_ret h)
theorem mn_6 {v1 : Int32} {M : mm_M} : mq_M M.2.2 (mf_6 v1 M) := mq_M_w (mq_M_N mn_19)
set_option maxRecDepth 20000 in
theorem mk_7 {v1 : Int32} {M : mm_M} : mq_K ((110, none) :: mw_20) M (mf_7 v1 M) := by
  unfold mf_7
  exact mq_K_Bc (mq_K_call mk_20 mq_kp_refl rfl) (fun _ N h => mq_K_ite (fun _ => mq_K_ret (mq_kp_pl h rfl)) (fun _ => mq_K_none)) (fun N h => mq_K_ret h)
theorem mn_7 {v1 : Int32} {M : mm_M} : mq_M M.2.2 (mf_7 v1 M) := mq_M_w (mq_M_N mn_20)
set_option maxRecDepth 20000 in
theorem mk_8 {v1 : Int32} {M : mm_M} : mq_K ((110, none) :: mw_21) M (mf_8 v1 M) := by
  unfold mf_8
  exact mq_K_Bc (mq_K_call mk_21 mq_kp_refl rfl) (fun _ N h => mq_K_ite (fun _ => mq_K_ret (mq_kp_pl h rfl)) (fun _ => mq_K_none)) (fun N h => mq_K_ret h)
theorem mn_8 {v1 : Int32} {M : mm_M} : mq_M M.2.2 (mf_8 v1 M) := mq_M_w (mq_M_N mn_21)
set_option maxRecDepth 20000 in
theorem mk_9 {v1 : Int32} {M : mm_M} : mq_K ((110, none) :: mw_23) M (mf_9 v1 M) := by
  unfold mf_9
  exact mq_K_Bc (mq_K_call mk_23 mq_kp_refl rfl) (fun _ N h => mq_K_ite (fun _ => mq_K_ret (mq_kp_pl h rfl)) (fun _ => mq_K_none)) (fun N h => mq_K_ret h)
theorem mn_9 {v1 : Int32} {M : mm_M} : mq_M M.2.2 (mf_9 v1 M) := mq_M_w (mq_M_N mn_23)
set_option maxRecDepth 20000 in
theorem mk_10 {v1 : Int32} {M : mm_M} : mq_K ((110, none) :: mw_24) M (mf_10 v1 M) := by
  unfold mf_10
  exact mq_K_Bc (mq_K_call mk_24 mq_kp_refl rfl) (fun _ N h => mq_K_ite (fun _ => mq_K_ret (mq_kp_pl h rfl)) (fun _ => mq_K_none)) (fun N h => mq_K_ret h)
theorem mn_10 {v1 : Int32} {M : mm_M} : mq_M M.2.2 (mf_10 v1 M) := mq_M_w (mq_M_N mn_24)
set_option maxRecDepth 20000 in
theorem mk_11 {v1 : Int32} {M : mm_M} : mq_K ((110, none) :: mw_25) M (mf_11 v1 M) := by
  unfold mf_11
  exact mq_K_Bc (mq_K_call mk_25 mq_kp_refl rfl) (fun _ N h => mq_K_ite (fun _ => mq_K_ret (mq_kp_pl h rfl)) (fun _ => mq_K_none)) (fun N h => mq_K_ret h)
theorem mn_11 {v1 : Int32} {M : mm_M} : mq_M M.2.2 (mf_11 v1 M) := mq_M_w (mq_M_N mn_25)
theorem mq_inv {v c : Int32} {L : Nat} (h0 : 0 ≤ v.toInt) (h1 : v.toInt + 6 ≤ L) (hL : L ≤ 3072) (c0 : 0 ≤ c.toInt) (c1 : c.toInt ≤ 5) : mm_in (v + c) L = true := by apply mq_inr <;> (rw [mi_add]; omega)
abbrev mq_lR : Type := ((Unit) ⊕ ((Unit) ⊕ ((Unit) ⊕ ((Unit) ⊕ ((Unit) ⊕ ((Unit) ⊕ ((Unit) ⊕ ((Unit) ⊕ ((Unit) ⊕ ((Unit) ⊕ ((Unit) ⊕ ((Unit) ⊕ ((Unit) ⊕ ((Unit) ⊕ ((Unit) ⊕ ((Unit) ⊕ ((Unit) ⊕ ((Unit) ⊕ ((Unit) ⊕ ((Unit) ⊕ ((Unit) ⊕ ((Unit) ⊕ ((Unit) ⊕ ((Unit) ⊕ (Unit)))))))))))))))))))))))))
def mq_lE : mq_lR := (.inr (.inr (.inr (.inr (.inr (.inr (.inr (.inr (.inr (.inr (.inr (.inr (.inr (.inr (.inr (.inr (.inr (.inr (.inr (.inr (.inr (.inr (.inr (.inr ()))))))))))))))))))))))))
def mq_lI (t : Nat) (v : Int32) (K : mm_M) : Prop := ∃ i : Nat, v.toInt = 6 * i ∧ i ≤ 513 ∧ mq_J K K ∧ K.2.2 ≤ t + i
def mq_lQ (t : Nat) (v : Int32) (r : Int32 ⊕ mq_lR) (N : mm_M) : Prop := (∃ s2, r = .inl s2 ∧ mq_lI t s2 N ∧ (4000 - s2.toInt).toNat < (4000 - v.toInt).toNat) ∨ (∃ x, r = .inr x ∧ x = mq_lE ∧ N.2.2 ≤ t + 600)
theorem mq_lfin {t : Nat} {v : Int32} {K K2 : mm_M} {i : Nat} (hv : v.toInt = 6 * i) (hi : i < 513) (hK : K.2.2 ≤ t + i) (J : mq_J K2 K2) (h2 : K2.2.2 ≤ K.2.2 + 1) : mq_1 (some (.inl (.inl (v + 6)), K2) : mm_O (Int32 ⊕ mq_lR)) (mq_lQ t v) := by
  have v0 : 0 ≤ v.toInt ∧ v.toInt ≤ 3078 := by omega
  have v6 : (v + 6).toInt = v.toInt + 6 := by clear hv; rw [mi_add]; simp only [Int32.reduceToInt]; omega
  have e6 : (v + 6).toInt = 6 * ((i + 1 : Nat) : Int) := by omega
  exact mq_1_ret (.inl ⟨_, rfl, ⟨i + 1, e6, by omega, J, by omega⟩, by omega⟩)
theorem mq_lawS {L : Nat} {xs : Nat → Int32} {t : Nat} {v : Int32} {K : mm_M} (hL : L ≤ 3072) (h : mq_lI t v K) : mq_1 (mf_12_b23 L xs v K) (mq_lQ t v) := by
  obtain ⟨i, hv, hi, J, hK⟩ := h
  have eL : (Int32.ofNat L).toInt = L := Int32.toInt_ofNat_of_lt (by omega)
  have e6 : (Int32.ofNat L - 6).toInt = (L : Int) - 6 := by rw [mi_sub, eL]; simp only [Int32.reduceToInt]; omega
  unfold mf_12_b23
  by_cases c : Int32.ofNat L - 6 < v
  · rw [if_pos c]
    exact mq_1_ret (.inr ⟨_, rfl, rfl, by omega⟩)
  rw [if_neg c]
  rw [Int32.lt_iff_toInt_lt, e6] at c
  have v0 : 0 ≤ v.toInt := by omega
  have v1 : v.toInt + 6 ≤ L := by omega
  have i0 : mm_in v L = true := mq_inr (by omega) (by omega)
  have fin : ∀ {K2 : mm_M}, mq_J K2 K2 → K2.2.2 ≤ K.2.2 + 1 → mq_1 (some (.inl (.inl (v + 6)), K2) : mm_O (Int32 ⊕ mq_lR)) (mq_lQ t v) := fun j n => mq_lfin hv (by omega) hK j n
  have i1 : mm_in (v + 1) L = true := mq_inv v0 v1 hL (by decide) (by decide)
  have i2 : mm_in (v + 2) L = true := mq_inv v0 v1 hL (by decide) (by decide)
  have i3 : mm_in (v + 3) L = true := mq_inv v0 v1 hL (by decide) (by decide)
  have i4 : mm_in (v + 4) L = true := mq_inv v0 v1 hL (by decide) (by decide)
  have i5 : mm_in (v + 5) L = true := mq_inv v0 v1 hL (by decide) (by decide)
  rw [if_pos i0]
  generalize xs v.toNatClampNeg &&& 15 = op
  by_cases q0 : op = 0
  · rw [if_pos q0]
    obtain ⟨r1, K1, b, K2, x1, x2, x3, x4, x5, x6⟩ := mq_case (x := fun M => mf_0 (xs (v + 1).toNatClampNeg) (xs (v + 2).toNatClampNeg) (xs (v + 3).toNatClampNeg) (xs (v + 4).toNatClampNeg) (xs (v + 5).toNatClampNeg) M) (y := fun N => mf_175 (xs (v + 1).toNatClampNeg) (xs (v + 2).toNatClampNeg) (xs (v + 3).toNatClampNeg) (xs (v + 4).toNatClampNeg) (xs (v + 5).toNatClampNeg) N) (Q := mq_C) (fun M N h => mq_feed h) (fun a M b N h => h.2.2) mk_0 (by decide) (fun N => mk_175) (by decide) mn_0 (fun N => mn_175) J
    try dsimp only at x1 x2
    rw [if_pos i1, if_pos i2, if_pos i3, if_pos i4, if_pos i5, x1, mq_Bs, if_pos i1, if_pos i2, if_pos i3, if_pos i4, if_pos i5, x2, mq_Bs]
    unfold mf_173
    rw [mq_Bs, if_pos x3.1.symm]
    by_cases z : r1 = 0
    · rw [if_pos z, if_pos (by decide), show (0 : Int32).toNatClampNeg = 0 from rfl, if_pos ((x4 110 0 (by decide)).2.trans (x3.2.1 z))]
      exact fin x5 x6
    · rw [if_neg z]
      exact fin x5 x6
  rw [if_neg q0]
  by_cases q1 : op = 1
  · rw [if_pos q1]
    obtain ⟨r1, K1, b, K2, x1, x2, x3, x4, x5, x6⟩ := mq_case (x := fun M => mf_1 (xs (v + 1).toNatClampNeg) M) (y := fun N => mf_176 (xs (v + 1).toNatClampNeg) N) (Q := mq_C1) (fun M N h => mq_end h) (fun a M b N h => h.2) mk_1 (by decide) (fun N => mk_176) (by decide) mn_1 (fun N => mn_176) J
    try dsimp only at x1 x2
    rw [if_pos i1, x1, mq_Bs, if_pos i1, x2, mq_Bs]
    unfold mf_173
    rw [mq_Bs, if_pos x3.1.symm]
    exact fin x5 x6
  rw [if_neg q1]
  by_cases q2 : op = 2
  · rw [if_pos q2]
    obtain ⟨r1, K1, b, K2, x1, x2, x3, x4, x5, x6⟩ := mq_case (x := fun M => mf_2 (xs (v + 1).toNatClampNeg) (xs (v + 2).toNatClampNeg) M) (y := fun N => mf_177 (xs (v + 1).toNatClampNeg) (xs (v + 2).toNatClampNeg) N) (Q := mq_C) (fun M N h => mq_alter h) (fun a M b N h => h.2.2) mk_2 (by decide) (fun N => mk_177) (by decide) mn_2 (fun N => mn_177) J
    try dsimp only at x1 x2
    rw [if_pos i1, if_pos i2, x1, mq_Bs, if_pos i1, if_pos i2, x2, mq_Bs]
    unfold mf_173
    rw [mq_Bs, if_pos x3.1.symm]
    by_cases z : r1 = 0
    · rw [if_pos z, if_pos (by decide), show (0 : Int32).toNatClampNeg = 0 from rfl, if_pos ((x4 110 0 (by decide)).2.trans (x3.2.1 z))]
      exact fin x5 x6
    · rw [if_neg z]
      exact fin x5 x6
  rw [if_neg q2]
  by_cases q3 : op = 3
  · rw [if_pos q3]
    obtain ⟨r1, K1, b, K2, x1, x2, x3, x4, x5, x6⟩ := mq_case (x := fun M => mf_3 M) (y := fun N => mf_178 N) (Q := mq_C) (fun M N h => mq_turn h) (fun a M b N h => h.2.2) mk_3 (by decide) (fun N => mk_178) (by decide) mn_3 (fun N => mn_178) J
    try dsimp only at x1 x2
    rw [x1, mq_Bs, x2, mq_Bs]
    unfold mf_173
    rw [mq_Bs, if_pos x3.1.symm]
    by_cases z : r1 = 0
    · rw [if_pos z, if_pos (by decide), show (0 : Int32).toNatClampNeg = 0 from rfl, if_pos ((x4 110 0 (by decide)).2.trans (x3.2.1 z))]
      exact fin x5 x6
    · rw [if_neg z]
      exact fin x5 x6
  rw [if_neg q3]
  by_cases q4 : op = 4
  · rw [if_pos q4]
    obtain ⟨r1, K1, b, K2, x1, x2, x3, x4, x5, x6⟩ := mq_case (x := fun M => mf_4 (xs (v + 1).toNatClampNeg) M) (y := fun N => mf_244 (xs (v + 1).toNatClampNeg) N) (Q := mq_C) (fun M N h => mq_open h) (fun a M b N h => h.2.2) mk_4 (by decide) (fun N => mk_244) (by decide) mn_4 (fun N => mn_244) J
    try dsimp only at x1 x2
    rw [if_pos i1, x1, mq_Bs, if_pos i1, x2, mq_Bs]
    unfold mf_173
    rw [mq_Bs, if_pos x3.1.symm]
    by_cases z : r1 = 0
    · rw [if_pos z, if_pos (by decide), show (0 : Int32).toNatClampNeg = 0 from rfl, if_pos ((x4 110 0 (by decide)).2.trans (x3.2.1 z))]
      exact fin x5 x6
    · rw [if_neg z]
      exact fin x5 x6
  rw [if_neg q4]
  by_cases q5 : op = 5
  · rw [if_pos q5]
    obtain ⟨r1, K1, b, K2, x1, x2, x3, x4, x5, x6⟩ := mq_case (x := fun M => mf_5 (xs (v + 1).toNatClampNeg) M) (y := fun N => mf_181 (xs (v + 1).toNatClampNeg) N) (Q := mq_C) (fun M N h => mq_told h) (fun a M b N h => h.2.2) mk_5 (by decide) (fun N => mk_181) (by decide) mn_5 (fun N => mn_181) J
    try dsimp only at x1 x2
    rw [if_pos i1, x1, mq_Bs, if_pos i1, x2, mq_Bs]
    unfold mf_173
    rw [mq_Bs, if_pos x3.1.symm]
    by_cases z : r1 = 0
    · rw [if_pos z, if_pos (by decide), show (0 : Int32).toNatClampNeg = 0 from rfl, if_pos ((x4 110 0 (by decide)).2.trans (x3.2.1 z))]
      exact fin x5 x6
    · rw [if_neg z]
      exact fin x5 x6
  rw [if_neg q5]
  by_cases q6 : op = 6
  · rw [if_pos q6]
    obtain ⟨r1, K1, b, K2, x1, x2, x3, x4, x5, x6⟩ := mq_case (x := fun M => mf_6 (xs (v + 1).toNatClampNeg) M) (y := fun N => mf_180 (xs (v + 1).toNatClampNeg) N) (Q := mq_C) (fun M N h => mq_out h) (fun a M b N h => h.2.2) mk_6 (by decide) (fun N => mk_180) (by decide) mn_6 (fun N => mn_180) J
    try dsimp only at x1 x2
    rw [if_pos i1, x1, mq_Bs, if_pos i1, x2, mq_Bs]
    unfold mf_173
    rw [mq_Bs, if_pos x3.1.symm]
    by_cases z : r1 = 0
    · rw [if_pos z, if_pos (by decide), show (0 : Int32).toNatClampNeg = 0 from rfl, if_pos ((x4 110 0 (by decide)).2.trans (x3.2.1 z))]
      exact fin x5 x6
    · rw [if_neg z]
      exact fin x5 x6
  rw [if_neg q6]
  by_cases q7 : op = 7
  · rw [if_pos q7]
    obtain ⟨r1, K1, b, K2, x1, x2, x3, x4, x5, x6⟩ := mq_case (x := fun M => mf_7 (xs (v + 1).toNatClampNeg) M) (y := fun N => mf_284 (xs (v + 1).toNatClampNeg) N) (Q := mq_C) (fun M N h => mq_pack h) (fun a M b N h => h.2.2) mk_7 (by decide) (fun N => mk_284) (by decide) mn_7 (fun N => mn_284) J
    try dsimp only at x1 x2
    rw [if_pos i1, x1, mq_Bs, if_pos i1, x2, mq_Bs]
    unfold mf_173
    rw [mq_Bs, if_pos x3.1.symm]
    by_cases z : r1 = 0
    · rw [if_pos z, if_pos (by decide), show (0 : Int32).toNatClampNeg = 0 from rfl, if_pos ((x4 110 0 (by decide)).2.trans (x3.2.1 z))]
      exact fin x5 x6
    · rw [if_neg z]
      exact fin x5 x6
  rw [if_neg q7]
  by_cases q8 : op = 8
  · rw [if_pos q8]
    obtain ⟨r1, K1, b, K2, x1, x2, x3, x4, x5, x6⟩ := mq_case (x := fun M => mf_8 (xs (v + 1).toNatClampNeg) M) (y := fun N => mf_189 (xs (v + 1).toNatClampNeg) N) (Q := mq_C) (fun M N h => mq_sum h) (fun a M b N h => h.2.2) mk_8 (by decide) (fun N => mk_189) (by decide) mn_8 (fun N => mn_189) J
    try dsimp only at x1 x2
    rw [if_pos i1, x1, mq_Bs, if_pos i1, x2, mq_Bs]
    unfold mf_173
    rw [mq_Bs, if_pos x3.1.symm]
    by_cases z : r1 = 0
    · rw [if_pos z, if_pos (by decide), show (0 : Int32).toNatClampNeg = 0 from rfl, if_pos ((x4 110 0 (by decide)).2.trans (x3.2.1 z))]
      exact fin x5 x6
    · rw [if_neg z]
      exact fin x5 x6
  rw [if_neg q8]
  by_cases q9 : op = 9
  · rw [if_pos q9]
    obtain ⟨r1, K1, b, K2, x1, x2, x3, x4, x5, x6⟩ := mq_case (x := fun M => mf_22 M) (y := fun N => mf_287 N) (fun M N h => mq_least h) (fun a M b N h => h.2) mk_22 (by decide) (fun N => mk_287) (by decide) (mq_M_N mn_22) (fun N => mn_287) J
    try dsimp only at x1 x2
    rw [x1, mq_Bs, x2, mq_Bs, if_pos x3.1]
    exact fin x5 x6
  rw [if_neg q9]
  by_cases q10 : op = 10
  · rw [if_pos q10]
    obtain ⟨r1, K1, b, K2, x1, x2, x3, x4, x5, x6⟩ := mq_case (x := fun M => mf_9 (xs (v + 1).toNatClampNeg) M) (y := fun N => mf_289 (xs (v + 1).toNatClampNeg) N) (Q := mq_C) (fun M N h => mq_length h) (fun a M b N h => h.2.2) mk_9 (by decide) (fun N => mk_289) (by decide) mn_9 (fun N => mn_289) J
    try dsimp only at x1 x2
    rw [if_pos i1, x1, mq_Bs, if_pos i1, x2, mq_Bs]
    unfold mf_173
    rw [mq_Bs, if_pos x3.1.symm]
    by_cases z : r1 = 0
    · rw [if_pos z, if_pos (by decide), show (0 : Int32).toNatClampNeg = 0 from rfl, if_pos ((x4 110 0 (by decide)).2.trans (x3.2.1 z))]
      exact fin x5 x6
    · rw [if_neg z]
      exact fin x5 x6
  rw [if_neg q10]
  by_cases q11 : op = 11
  · rw [if_pos q11]
    obtain ⟨r1, K1, b, K2, x1, x2, x3, x4, x5, x6⟩ := mq_case (x := fun M => mf_10 (xs (v + 1).toNatClampNeg) M) (y := fun N => mf_274 (xs (v + 1).toNatClampNeg) N) (Q := mq_C) (fun M N h => mq_turning h) (fun a M b N h => h.2.2) mk_10 (by decide) (fun N => mk_274) (by decide) mn_10 (fun N => mn_274) J
    try dsimp only at x1 x2
    rw [if_pos i1, x1, mq_Bs, if_pos i1, x2, mq_Bs]
    unfold mf_173
    rw [mq_Bs, if_pos x3.1.symm]
    by_cases z : r1 = 0
    · rw [if_pos z, if_pos (by decide), show (0 : Int32).toNatClampNeg = 0 from rfl, if_pos ((x4 110 0 (by decide)).2.trans (x3.2.1 z))]
      exact fin x5 x6
    · rw [if_neg z]
      exact fin x5 x6
  rw [if_neg q11]
  by_cases q12 : op = 12
  · rw [if_pos q12]
    obtain ⟨r1, K1, b, K2, x1, x2, x3, x4, x5, x6⟩ := mq_case (x := fun M => mf_11 (xs (v + 1).toNatClampNeg) M) (y := fun N => mf_179 (xs (v + 1).toNatClampNeg) N) (Q := mq_C) (fun M N h => mq_count h) (fun a M b N h => h.2.2) mk_11 (by decide) (fun N => mk_179) (by decide) mn_11 (fun N => mn_179) J
    try dsimp only at x1 x2
    rw [if_pos i1, x1, mq_Bs, if_pos i1, x2, mq_Bs]
    unfold mf_173
    rw [mq_Bs, if_pos x3.1.symm]
    by_cases z : r1 = 0
    · rw [if_pos z, if_pos (by decide), show (0 : Int32).toNatClampNeg = 0 from rfl, if_pos ((x4 110 0 (by decide)).2.trans (x3.2.1 z))]
      exact fin x5 x6
    · rw [if_neg z]
      exact fin x5 x6
  rw [if_neg q12]
  exact fin J (by omega)
theorem mq_law {L : Nat} {xs : Nat → Int32} {M : mm_M} (hL : L ≤ 3072) (h : mq_J M M) : ∃ M2, mf_12 L xs M = some (.inl 1, M2) ∧ M2.2.2 ≤ M.2.2 + 600 := by
  unfold mf_12 mf_12_L23
  obtain ⟨r, K, x1, x2, x3⟩ := mq_1_L (step := fun s M => mf_12_b23 L xs s M) (Q := fun x N => x = mq_lE ∧ N.2.2 ≤ M.2.2 + 600) (I := fun s K => mq_lI M.2.2 s K) (m := fun s _ => (4000 - s.toInt).toNat) (fun s K hI => mq_lawS hL hI) (s := 0) (M := M) ⟨0, rfl, by omega, h, by omega⟩
  rw [x1, mq_Bs, x2]
  exact ⟨K, rfl, x3⟩
