/-! FORM 9: the letters, in step -/
theorem mq_tabeq {t : Nat} (h : t < 6) : mm_tab t = 50 + 5 * t := by
  match t, h with
  | 0, _ => rfl
  | 1, _ => rfl
  | 2, _ => rfl
  | 3, _ => rfl
  | 4, _ => rfl
  | 5, _ => rfl
/-- the last bytes so far, alike -/
def mq_la (M N : mm_M) : Prop := M.1 42 12 = N.1 84 28 ∧ 0 ≤ (M.1 42 12).toInt ∧ (M.1 42 12).toInt ≤ 16384 ∧ ∀ j : Nat, (j : Int) < (M.1 42 12).toInt → M.1 47 j = N.1 95 j ∧ 0 ≤ (M.1 47 j).toInt ∧ (M.1 47 j).toInt < 256
theorem mq_la_kp {M N M2 N2 : mm_M} {w w2 : List (Nat × Option Nat)} (h : mq_la M N) (k1 : mq_kp w M M2) (k2 : mq_kp w2 N N2) (h1 : mq_ws w 42 12 = false) (h2 : w.all (fun e => decide (e.1 < 47) || decide (47 < e.1)) = true) (h3 : mq_ws w2 84 28 = false) (h4 : w2.all (fun e => decide (e.1 < 95) || decide (95 < e.1)) = true) : mq_la M2 N2 := by
  unfold mq_la
  rw [(k1 42 12 h1).1, (k2 84 28 h3).1]
  refine ⟨h.1, h.2.1, h.2.2.1, fun j hj => ?_⟩
  rw [(k1 47 j (mq_ws_out h2 (by decide) (by decide))).1, (k2 95 j (mq_ws_out h4 (by decide) (by decide))).1]
  exact h.2.2.2 j hj
theorem mq_la_put {M N : mm_M} {b : Int32} (h : mq_la M N) (hs : (M.1 42 12).toInt < 16384) (b0 : 0 ≤ b.toInt) (b1 : b.toInt < 256) : mq_la (mm_pi (mm_pi M 47 (M.1 42 12).toNatClampNeg b) 42 12 (M.1 42 12 + 1)) (mm_pi (mm_pi N 95 (N.1 84 28).toNatClampNeg b) 84 28 (N.1 84 28 + 1)) ∧ (M.1 42 12 + 1).toInt = (M.1 42 12).toInt + 1 := by
  obtain ⟨h1, h2, h3, h4⟩ := h
  have e : (M.1 42 12 + 1).toInt = (M.1 42 12).toInt + 1 := by rw [mi_add]; simp only [Int32.reduceToInt]; omega
  refine ⟨⟨?_, ?_, ?_, ?_⟩, e⟩
  · show M.1 42 12 + 1 = N.1 84 28 + 1
    rw [h1]
  · show 0 ≤ (M.1 42 12 + 1).toInt
    omega
  · show (M.1 42 12 + 1).toInt ≤ 16384
    omega
  · intro j hj
    have hj : (j : Int) < (M.1 42 12 + 1).toInt := hj
    show (if j = (M.1 42 12).toNatClampNeg then b else M.1 47 j) = (if j = (N.1 84 28).toNatClampNeg then b else N.1 95 j) ∧ 0 ≤ (if j = (M.1 42 12).toNatClampNeg then b else M.1 47 j).toInt ∧ (if j = (M.1 42 12).toNatClampNeg then b else M.1 47 j).toInt < 256
    rw [← h1]
    by_cases q : j = (M.1 42 12).toNatClampNeg
    · rw [if_pos q, if_pos q]; exact ⟨rfl, b0, b1⟩
    · rw [if_neg q, if_neg q]
      rw [mq_cl] at q
      exact h4 j (by omega)
theorem mq_addb {M N : mm_M} {b : Int32} {n : Int64} (hS : mq_S M N) (hla : mq_la M N) (hb : b = N.1 94 0) (b0 : 0 ≤ b.toInt) (b1 : b.toInt < 256) (n0 : 0 ≤ n.toInt) (n1 : n.toInt ≤ 1000000) : mq_2 mq_XE (mf_144 b n M) (mf_229 n N) (fun _ M2 _ N2 => mq_la M2 N2 ∧ mq_kp [(47, none), (42, some 12)] M M2 ∧ mq_kp [(95, none), (84, some 28)] N N2) := by
  unfold mf_144 mf_229
  obtain ⟨h1, h2, h3, h4⟩ := hla
  rw [← h1]
  have e1 : ((M.1 42 12).toInt64 + n).toInt = (M.1 42 12).toInt + n.toInt := by rw [mj_add, Int32.toInt_toInt64]; omega
  unfold mf_144_j19
  by_cases c : 16384 < (M.1 42 12).toInt64 + n
  · rw [if_pos c, if_pos c, mq_27t, mq_Bt, mq_190, mq_Bs]
    exact mq_2_thr (mq_X_th (mq_S_bad hS))
  · rw [if_neg c, if_neg c, mq_27, mq_Bs]
    rw [Int64.lt_iff_toInt_lt, e1] at c
    simp only [Int64.reduceToInt] at c
    refine mq_2_B (E := mq_F) (P := fun _ M2 _ N2 => mq_la M2 N2 ∧ mq_kp [(47, none), (42, some 12)] M M2 ∧ mq_kp [(95, none), (84, some 28)] N N2) ?_ (fun _ _ _ _ q => mq_2_ret q) (fun _ _ _ q => q.elim)
    unfold mf_144_L25 mf_229_L21
    refine mq_2_Lf (I := fun (a : Int32) M2 (d : Int64) N2 => a.toInt = d.toInt ∧ 0 ≤ a.toInt ∧ a.toInt ≤ n.toInt ∧ mq_la M2 N2 ∧ (M2.1 42 12).toInt = (M.1 42 12).toInt + a.toInt ∧ mq_kp [(47, none), (42, some 12)] M M2 ∧ mq_kp [(95, none), (84, some 28)] N N2) (m := fun (a : Int32) _ => (n.toInt - a.toInt).toNat) ?_ ⟨rfl, by decide, n0, ⟨h1, h2, h3, h4⟩, by simp only [Int32.reduceToInt]; omega, mq_kp_refl, mq_kp_refl⟩
    rintro a M2 d N2 ⟨ad, a0, a1, hla, hsz, k1, k2⟩
    unfold mf_144_b25 mf_229_b21
    by_cases g : a.toInt < n.toInt
    · rw [if_pos (show a.toInt64 < n from by rw [Int64.lt_iff_toInt_lt, Int32.toInt_toInt64]; exact g), if_pos (show d < n from by rw [Int64.lt_iff_toInt_lt]; omega)]
      have ea : (a + 1).toInt = a.toInt + 1 := by rw [mi_add]; simp only [Int32.reduceToInt]; omega
      have ed : (d + 1).toInt = d.toInt + 1 := by rw [mj_add]; simp only [Int64.reduceToInt]; omega
      have hs : (M2.1 42 12).toInt < 16384 := by omega
      rw [if_pos (mq_inr hla.2.1 (by omega)), if_pos (show mm_in 0 256 = true from by decide), if_pos (by rw [← hla.1]; exact mq_inr hla.2.1 (by omega)), show (0 : Int32).toNatClampNeg = 0 from rfl, (k2 94 0 rfl).1, ← hb]
      obtain ⟨q1, q2⟩ := mq_la_put hla hs b0 b1
      refine mq_2_ret (.inl ⟨_, _, rfl, rfl, ⟨by omega, by omega, by omega, q1, ?_, mq_kp_pi (mq_kp_pi k1 rfl) rfl, mq_kp_pi (mq_kp_pi k2 rfl) rfl⟩, by omega⟩)
      show (M2.1 42 12 + 1).toInt = _
      omega
    · rw [if_neg (show ¬ a.toInt64 < n from by rw [Int64.lt_iff_toInt_lt, Int32.toInt_toInt64]; exact g), if_neg (show ¬ d < n from by rw [Int64.lt_iff_toInt_lt]; omega)]
      exact mq_2_ret (.inr ⟨_, _, rfl, rfl, hla, k1, k2⟩)
theorem mq_add1 {M : mm_M} {x : Int32} (h0 : 0 ≤ (M.1 42 12).toInt) (h1 : (M.1 42 12).toInt ≤ 16384) : (mf_144 x 1 M = some (.inl (), mm_pi (mm_pi M 47 (M.1 42 12).toNatClampNeg x) 42 12 (M.1 42 12 + 1)) ∧ (M.1 42 12).toInt < 16384) ∨ (mf_144 x 1 M = some (.inr 0, mm_th M) ∧ (M.1 42 12).toInt = 16384) := by
  have e1 : ((M.1 42 12).toInt64 + 1).toInt = (M.1 42 12).toInt + 1 := by rw [mj_add, Int32.toInt_toInt64]; simp only [Int64.reduceToInt]; omega
  unfold mf_144 mf_144_j19
  by_cases c : (M.1 42 12).toInt < 16384
  · left
    refine ⟨?_, c⟩
    rw [if_neg (show ¬ 16384 < (M.1 42 12).toInt64 + 1 from by rw [Int64.lt_iff_toInt_lt, e1]; simp only [Int64.reduceToInt]; omega), mq_27, mq_Bs]
    unfold mf_144_L25
    rw [mm_L_eq]
    have s1 : mf_144_b25 x 1 0 M = some (.inl (.inl (0 + 1)), mm_pi (mm_pi M 47 (M.1 42 12).toNatClampNeg x) 42 12 (M.1 42 12 + 1)) := by
      unfold mf_144_b25
      rw [if_pos (show (0 : Int32).toInt64 < 1 from by decide), if_pos (mq_inr h0 (by omega))]
    rw [s1, mq_Bs]
    show mm_B (mm_L _ (0 + 1) _) _ = _
    rw [mm_L_eq]
    rfl
  · right
    refine ⟨?_, by omega⟩
    rw [if_pos (show 16384 < (M.1 42 12).toInt64 + 1 from by rw [Int64.lt_iff_toInt_lt, e1]; simp only [Int64.reduceToInt]; omega)]
    rfl
/-- a byte is brought to the front and added -/
theorem mq_tofront {M N : mm_M} {v : Int32} (hS : mq_S M N) (hla : mq_la M N) (hfr : mq_fr M N) (v0 : 0 ≤ v.toInt) (v1 : v.toInt < (M.1 42 9).toInt) {α : Type} {x : α} : mq_2 mq_XE (mm_B (mf_141 46 256 v M) (fun _ M4 => if mm_in (0 : Int32) 256 then mm_B (mf_144 (M4.1 46 (0 : Int32).toNatClampNeg) (1 : Int64) M4) (fun _ M5 => (some (.inl x, M5) : mm_O α)) else none)) (mf_230 v N) (fun r M2 _ N2 => r = x ∧ mq_la M2 N2 ∧ mq_fr M2 N2 ∧ mq_kp [(47, none), (42, some 12), (46, none)] M M2 ∧ mq_kp [(95, none), (84, some 28), (94, none)] N N2) := by
  obtain ⟨f1, f2, f3, f4⟩ := hfr
  have hv : ∀ j, j < (M.1 42 9).toInt.toNat → M.1 46 j = N.1 94 j ∧ (0 ≤ (M.1 46 j).toInt ∧ (M.1 46 j).toInt < 256) := fun j hj => f4 j (by omega)
  have hx := hv v.toNatClampNeg (by rw [mq_cl]; omega)
  unfold mf_141 mf_230
  rw [if_neg (show ¬ v < 0 from by rw [Int32.lt_iff_toInt_lt]; simp only [Int32.reduceToInt]; omega), if_pos (show v < Int32.ofNat 256 from by rw [Int32.lt_iff_toInt_lt]; show v.toInt < (256 : Int32).toInt; simp only [Int32.reduceToInt]; omega), if_pos (mq_inr v0 (by omega)), mq_Ba, hx.1, ← hla.1]
  have mv := mq_mtf (M := M) (N := N) (p := 46) (np := 256) (q := 94) (nq := 256) (len := (M.1 42 9).toInt.toNat) (z := N.1 94 v.toNatClampNeg) (v := v) (s2 := fun s M => mf_230_b24 (N.1 94 v.toNatClampNeg) s M) (R := fun x => 0 ≤ x.toInt ∧ x.toInt < 256) (fun _ _ => rfl) v0 (by omega) (by omega) (by omega) (by omega) hv
  obtain ⟨_, N5, eN, ⟨_, M5, eM, m1, m2, m3⟩ | ⟨_, _, hF⟩⟩ := mv
  · rw [eM, mq_Bs]
    unfold mf_141_j35
    rw [if_pos (show mm_in 0 256 = true from by decide), mq_Bs, if_pos (show mm_in 0 256 = true from by decide), show (0 : Int32).toNatClampNeg = 0 from rfl, mq_ps]
    have s5 : (mm_pi M5 46 0 (N.1 94 v.toNatClampNeg)).1 42 12 = M.1 42 12 := by rw [mq_pn (by decide), (m2 42 12 rfl).1]
    rcases mq_add1 (M := mm_pi M5 46 0 (N.1 94 v.toNatClampNeg)) (x := N.1 94 v.toNatClampNeg) (by rw [s5]; exact hla.2.1) (by rw [s5]; exact hla.2.2.1) with ⟨e1, l1⟩ | ⟨e1, l1⟩
    · rw [s5] at l1 e1
      rw [e1, mq_Bs, if_neg (show ¬ M.1 42 12 = 16384 from by intro q; rw [q] at l1; exact absurd l1 (by decide)), if_pos (mq_inr v0 (by omega))]
      unfold mf_230_L24
      rw [eN, mq_Bs]
      unfold mf_230_j48
      have n5 : N5.1 84 28 = N.1 84 28 := (m3 84 28 rfl).1
      rw [if_pos (show mm_in 0 256 = true from by decide), show (0 : Int32).toNatClampNeg = 0 from rfl, n5, ← hla.1, if_pos (mq_inr hla.2.1 (by omega))]
      -- the last bytes
      have la5 : mq_la (mm_pi M5 46 0 (N.1 94 v.toNatClampNeg)) (mm_pi N5 94 0 (N.1 94 v.toNatClampNeg)) := mq_la_kp (w := [(46, none)]) (w2 := [(94, none)]) hla (mq_kp_pi m2 rfl) (mq_kp_pi m3 rfl) rfl rfl rfl rfl
      have nn5 : (mm_pi N5 94 0 (N.1 94 v.toNatClampNeg)).1 84 28 = N.1 84 28 := by rw [mq_pn (by decide)]; exact n5
      obtain ⟨q1, q2⟩ := mq_la_put (b := N.1 94 v.toNatClampNeg) la5 (by rw [s5]; exact l1) (by rw [← hx.1]; exact hx.2.1) (by rw [← hx.1]; exact hx.2.2)
      rw [s5, nn5, ← hla.1] at q1
      refine mq_2_ret ⟨rfl, q1, ⟨?_, ?_, ?_, ?_⟩, ?_, ?_⟩
      · show M5.1 42 9 = N5.1 84 20
        rw [(m2 42 9 rfl).1, (m3 84 20 rfl).1]; exact f1
      · show 0 ≤ (M5.1 42 9).toInt
        rw [(m2 42 9 rfl).1]; exact f2
      · show (M5.1 42 9).toInt ≤ 256
        rw [(m2 42 9 rfl).1]; exact f3
      · intro j hj
        have hj : (j : Int) < (M5.1 42 9).toInt := hj
        rw [(m2 42 9 rfl).1] at hj
        rw [mq_pn (show 46 ≠ 42 from by decide), mq_pn (show 46 ≠ 47 from by decide), mq_pn (show 94 ≠ 84 from by decide), mq_pn (show 94 ≠ 95 from by decide)]
        by_cases e : j = 0
        · rw [e, mq_ps, mq_ps, ← hx.1]; exact ⟨rfl, hx.2⟩
        · rw [mq_pj e, mq_pj e]; exact m1 j (by omega)
      · exact mq_kp_pi (mq_kp_pi (mq_kp_pi (mq_kp_sub m2 rfl) rfl) rfl) rfl
      · exact mq_kp_pi (mq_kp_pi (mq_kp_pi (mq_kp_sub m3 rfl) rfl) rfl) rfl
    · rw [s5] at l1
      rw [e1, mq_Bt, if_pos (show M.1 42 12 = 16384 from Int32.toInt_inj.mp (by rw [l1]; rfl)), mq_190, mq_Bs]
      refine mq_2_thr ?_
      have k : mq_kp [(46, none)] M (mm_pi M5 46 0 (N.1 94 v.toNatClampNeg)) := mq_kp_pi m2 rfl
      obtain ⟨u1, _⟩ := mq_S_kp (w2 := []) hS k (mq_kp_refl (M := N)) rfl rfl
      exact mq_X_th (mq_S_bad u1)
  · exact hF.elim
