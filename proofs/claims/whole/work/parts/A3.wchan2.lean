/-! WRITING: CHANCES, a carry and a bit -/
theorem mi_dec {y : Int32} (h0 : 0 ≤ y.toInt) : (y + -1).toInt = y.toInt - 1 ∧ ((y + -1).toInt + 1).toNat < (y.toInt + 1).toNat := by
  have e : (y + -1).toInt = y.toInt - 1 := by rw [mi_add]; simp only [Int32.reduceToInt]; have := mq_hi y; omega
  refine ⟨e, ?_⟩
  rw [e]
  omega
theorem mi_dec13 {y : Int32} {k : Nat} (h0 : y.toInt = ((13 + k : Nat) : Int)) (hk : 1 ≤ k) : (y + -1).toInt = ((13 + (k - 1) : Nat) : Int) := by
  rw [(mi_dec (by omega)).1, h0]
  omega
theorem mi_dec0 {y : Int32} {k : Nat} (h0 : y.toInt = (k : Int)) (hk : 1 ≤ k) : (y + -1).toInt = ((k - 1 : Nat) : Int) := by
  rw [(mi_dec (by omega)).1, h0]
  omega
theorem mq_carc {M : mm_M} {d e : Nat} (hs : (M.1 5 1).toInt = ((13 + d : Nat) : Int)) (hd : d ≤ 12600) (he : e < d) (h0 : 0 ≤ (M.1 6 (13 + e)).toInt) (h1 : (M.1 6 (13 + e)).toInt < 255) (ha : ∀ j, e < j → j < d → M.1 6 (13 + j) = 255) : mq_1 (mf_65 M) (fun _ M2 => (∀ j, (j < 13 + e ∨ 13 + d ≤ j) → M2.1 6 j = M.1 6 j) ∧ M2.1 6 (13 + e) = M.1 6 (13 + e) + 1 ∧ (∀ j, e < j → j < d → M2.1 6 (13 + j) = 0) ∧ mq_kp mw_65 M M2) := by
  refine mq_1_mono (mq_1_K (l := mw_65) (M0 := M) (Q := fun _ M2 => (∀ j, (j < 13 + e ∨ 13 + d ≤ j) → M2.1 6 j = M.1 6 j) ∧ M2.1 6 (13 + e) = M.1 6 (13 + e) + 1 ∧ (∀ j, e < j → j < d → M2.1 6 (13 + j) = 0)) ?_ mk_65) (fun _ _ q => ⟨q.1.1, q.1.2.1, q.1.2.2, q.2⟩)
  unfold mf_65
  refine mq_1_B (P := fun _ M2 => (∀ j, (j < 13 + e ∨ 13 + d ≤ j) → M2.1 6 j = M.1 6 j) ∧ M2.1 6 (13 + e) = M.1 6 (13 + e) + 1 ∧ (∀ j, e < j → j < d → M2.1 6 (13 + j) = 0)) ?_ (fun _ _ q => mq_1_ret q)
  have e1 : (M.1 5 1 - 1).toInt = ((13 + (d - 1) : Nat) : Int) := by rw [mi_sub]; simp only [Int32.reduceToInt]; omega
  unfold mf_65_L9
  refine mq_1_L (I := fun (s : Int32 × Int32) M2 => (s.1 = 1 ∧ ∃ k : Nat, s.2.toInt = ((13 + k : Nat) : Int) ∧ e ≤ k ∧ k < d ∧ (∀ j, (j ≤ 13 + k ∨ 13 + d ≤ j) → M2.1 6 j = M.1 6 j) ∧ (∀ j, k < j → j < d → M2.1 6 (13 + j) = 0)) ∨ (s.1 = 0 ∧ 0 ≤ s.2.toInt ∧ (∀ j, (j < 13 + e ∨ 13 + d ≤ j) → M2.1 6 j = M.1 6 j) ∧ M2.1 6 (13 + e) = M.1 6 (13 + e) + 1 ∧ (∀ j, e < j → j < d → M2.1 6 (13 + j) = 0))) (m := fun s _ => (s.2.toInt + 1).toNat) ?_ (.inl ⟨rfl, d - 1, e1, by omega, by omega, fun _ _ => rfl, fun j h1 h2 => by omega⟩)
  rintro ⟨x, y⟩ M2 (⟨rfl, k, hy, k1, k2, hv, hz⟩ | ⟨rfl, y0, hf⟩)
  · dsimp only at hy ⊢
    have hin : mm_in y 16384 = true := mq_inr (by omega) (by omega)
    have ny : y.toNatClampNeg = 13 + k := by rw [mq_cl]; omega
    unfold mf_65_b9 mf_65_j34
    rw [if_neg (by rw [Int32.lt_iff_toInt_lt]; simp only [Int32.reduceToInt]; omega), if_neg (by decide), if_pos hin, if_pos hin, if_pos hin, if_pos hin, if_pos hin, ny, hv (13 + k) (.inl (Nat.le_refl _))]
    by_cases c : k = e
    · subst c
      rw [if_neg (fun q => by rw [q] at h1; simp only [Int32.reduceToInt] at h1; omega)]
      have e3 : (M.1 6 (13 + k) + 1).toInt = (M.1 6 (13 + k)).toInt + 1 := by rw [mi_add]; simp only [Int32.reduceToInt]; omega
      rw [mi_and255 (by omega) (by omega)]
      have y1 : 0 ≤ (y + -1).toInt := by rw [(mi_dec (by omega)).1, hy]; clear hv hz h0 h1 ha; omega
      refine mq_1_ret (.inl ⟨_, rfl, .inr ⟨rfl, y1, fun j hj => ?_, ?_, fun j j1 j2 => ?_⟩, (mi_dec (by omega)).2⟩)
      · rw [mq_pj (by omega)]
        exact hv j (by omega)
      · rw [mq_ps]
      · rw [mq_pj (by omega)]
        exact hz j j1 j2
    · rw [ha k (by omega) k2, if_pos rfl, show ((255 : Int32) + 1) &&& 255 = 0 from by decide]
      refine mq_1_ret (.inl ⟨_, rfl, .inl ⟨rfl, k - 1, mi_dec13 hy (by omega), by omega, by omega, fun j hj => ?_, fun j j1 j2 => ?_⟩, (mi_dec (by omega)).2⟩)
      · rw [mq_pj (by omega)]
        exact hv j (by omega)
      · by_cases q : j = k
        · rw [q, mq_ps]
        · rw [mq_pj (by omega)]
          exact hz j (by omega) j2
  · dsimp only at y0 ⊢
    unfold mf_65_b9
    rw [if_neg (by rw [Int32.lt_iff_toInt_lt]; simp only [Int32.reduceToInt]; omega), if_pos rfl]
    exact mq_1_ret (.inr ⟨_, rfl, hf⟩)
theorem mq_carr {N : mm_M} {d e : Nat} (hs : (N.1 84 54).toInt = d) (hd : d ≤ 12600) (he : e < d) (h1 : (N.1 102 e).toInt < 255) (ha : ∀ j, e < j → j < d → N.1 102 j = 255) (hl : (4294967295 : Int64) < N.2.1 84 53) : mq_1 (mf_281 N) (fun _ N2 => (∀ j, (j < e ∨ d ≤ j) → N2.1 102 j = N.1 102 j) ∧ N2.1 102 e = N.1 102 e + 1 ∧ (∀ j, e < j → j < d → N2.1 102 j = 0) ∧ N2.2.1 84 53 = N.2.1 84 53 &&& 4294967295 ∧ mq_kp mw_281 N N2) := by
  refine mq_1_mono (mq_1_K (l := mw_281) (M0 := N) (Q := fun _ N2 => (∀ j, (j < e ∨ d ≤ j) → N2.1 102 j = N.1 102 j) ∧ N2.1 102 e = N.1 102 e + 1 ∧ (∀ j, e < j → j < d → N2.1 102 j = 0) ∧ N2.2.1 84 53 = N.2.1 84 53 &&& 4294967295) ?_ mk_281) (fun _ _ q => ⟨q.1.1, q.1.2.1, q.1.2.2.1, q.1.2.2.2, q.2⟩)
  have e1 : (N.1 84 54 - 1).toInt = ((d - 1 : Nat) : Int) := by rw [mi_sub]; simp only [Int32.reduceToInt]; omega
  unfold mf_281
  rw [if_pos hl]
  refine mq_1_B (P := fun (r : Int32) N2 => r.toInt = e ∧ (∀ j, (j ≤ e ∨ d ≤ j) → N2.1 102 j = N.1 102 j) ∧ (∀ j, e < j → j < d → N2.1 102 j = 0) ∧ N2.2.1 84 53 = N.2.1 84 53 &&& 4294967295) ?_ ?_
  · unfold mf_281_L30
    refine mq_1_L (I := fun (s : Int32) N2 => ∃ k : Nat, s.toInt = k ∧ e ≤ k ∧ k < d ∧ (∀ j, (j ≤ k ∨ d ≤ j) → N2.1 102 j = N.1 102 j) ∧ (∀ j, k < j → j < d → N2.1 102 j = 0) ∧ N2.2.1 84 53 = N.2.1 84 53 &&& 4294967295) (m := fun s _ => (s.toInt + 1).toNat) ?_ ⟨d - 1, e1, by omega, by omega, fun _ _ => rfl, fun j h1 h2 => by omega, rfl⟩
    rintro y N2 ⟨k, hy, k1, k2, hv, hz, hlow⟩
    have hin : mm_in y 12600 = true := mq_inr (by omega) (by omega)
    have ny : y.toNatClampNeg = k := by rw [mq_cl]; omega
    unfold mf_281_b30
    rw [if_neg (by rw [Int32.lt_iff_toInt_lt]; simp only [Int32.reduceToInt]; omega), if_pos hin, if_pos hin, ny, hv k (.inl (Nat.le_refl _))]
    by_cases c : k = e
    · subst c
      rw [if_neg (fun q => by rw [q] at h1; simp only [Int32.reduceToInt] at h1; omega)]
      exact mq_1_ret (.inr ⟨_, rfl, hy, hv, hz, hlow⟩)
    · rw [if_pos (ha k (by omega) k2)]
      refine mq_1_ret (.inl ⟨_, rfl, ⟨k - 1, mi_dec0 hy (by omega), by omega, by omega, fun j hj => ?_, fun j j1 j2 => ?_, hlow⟩, (mi_dec (by omega)).2⟩)
      · rw [mq_pj (by omega)]
        exact hv j (by omega)
      · by_cases q : j = k
        · rw [q, mq_ps]
        · rw [mq_pj (by omega)]
          exact hz j (by omega) j2
  · rintro r N2 ⟨hr, hv, hz, hlow⟩
    have hin : mm_in r 12600 = true := mq_inr (by omega) (by omega)
    have nr : r.toNatClampNeg = e := by rw [mq_cl]; omega
    unfold mf_281_j59
    rw [if_pos hin, if_pos hin, nr, hv e (.inl (Nat.le_refl _))]
    refine mq_1_ret ⟨fun j hj => ?_, ?_, fun j j1 j2 => ?_, hlow⟩
    · rw [mq_pj (by omega)]
      exact hv j (by omega)
    · rw [mq_ps]
    · rw [mq_pj (by omega)]
      exact hz j j1 j2
/-- a 1 is written -/
theorem mq_cw1 {M N : mm_M} {st d i R lw Bq : Nat} {b64 : Int64} {x : Int32} (r2 : (N.2.1 84 33).toInt = R) (r4 : R ≤ 4294967295) (l2 : (N.2.1 84 53).toInt = lw) (l3 : lw ≤ 4294967295) (d1 : (N.1 84 54).toInt = d) (d2 : 1 ≤ d) (d3 : (M.1 5 1).toInt = ((13 + d : Nat) : Int)) (d4 : M.1 5 2 = 0) (d5 : (N.1 84 41).toInt = 13) (h4 : ∀ j, j < d → M.1 6 (13 + j) = N.1 102 j ∧ 0 ≤ (N.1 102 j).toInt ∧ (N.1 102 j).toInt ≤ 255) (h5 : ∀ j, j < 13 → M.1 6 j = N.1 100 j ∧ 0 ≤ (M.1 6 j).toInt ∧ (M.1 6 j).toInt < 256) (hctx : ∀ k2, k2 < 14340 → (mm_pi M 81 i x).1 81 k2 = (mm_pi N 98 (mq_mp i) x).1 98 (mq_mp k2) ∧ 31 ≤ ((mm_pi M 81 i x).1 81 k2).toInt ∧ ((mm_pi M 81 i x).1 81 k2).toInt ≤ 2017) (hinv : mc_inv (d - 1) (R - Bq) (mc_sum (fun j => mc_ph ((mm_pi M 81 i x).1 81 j).toInt.toNat) 14340) (st + 1)) (h8 : mc_ok (mc_val (mq_dg N) d) lw R d) (h9 : mq_T M N) (hst : st + 1 ≤ 90000) (hbd : d ≤ 12600) (qB : b64.toInt = Bq) (qb : Bq ≤ R) (lo2 : 253952 ≤ R - Bq) :
    mq_2 mq_F (if (4294967295 : Int64) < (N.2.1 84 53 + b64) then (mm_B (mf_65 (mm_pl (mm_pl (mm_pi (mm_pl M 80 4 (N.2.1 84 33 - b64)) 81 i x) 80 15 (N.2.1 84 53 + b64)) 80 15 ((N.2.1 84 53 + b64) &&& (4294967295 : Int64)))) (fun _ M1 => mf_172_j113 M1)) else (mf_172_j113 (mm_pl (mm_pi (mm_pl M 80 4 (N.2.1 84 33 - b64)) 81 i x) 80 15 (N.2.1 84 53 + b64))))
      (mm_B (mf_281 (mm_pi (mm_pl (mm_pl N 84 53 (N.2.1 84 53 + b64)) 84 33 (N.2.1 84 33 - b64)) 98 (mq_mp i) x)) (fun _ M1 => mf_282_j93 M1)) (fun _ M2 _ N2 => ∃ d2, mq_ce M2 N2 (st + 1) d2) := by
  have eR : (N.2.1 84 33 - b64).toInt = ((R - Bq : Nat) : Int) := by rw [mj_sub, qB, r2]; omega
  have eL : (N.2.1 84 53 + b64).toInt = ((lw + Bq : Nat) : Int) := by rw [mj_add, qB, l2]; omega
  by_cases cy : 4294967295 < N.2.1 84 53 + b64
  · rw [if_pos cy]
    have cy2 := cy
    rw [Int64.lt_iff_toInt_lt, eL] at cy2
    simp only [Int64.reduceToInt] at cy2
    have hd : ∀ j, j < d → mq_dg N j ≤ 255 := fun j hj => by show (N.1 102 j).toInt.toNat ≤ 255; have := h4 j hj; omega
    have h81 : mc_ok (mc_val (mq_dg N) d) (lw + Bq) (R - Bq) d := mc_ok_m h8 (by omega)
    obtain ⟨e, e1, e2, e3⟩ := mc_carry (f := mq_dg N) (d := d) (mc_ok_b h81 (by omega) (by omega)) hd
    have e2' : (N.1 102 e).toInt.toNat < 255 := e2
    have n0 := (h4 e e1).2.1
    have e3' : ∀ j, e < j → j < d → N.1 102 j = 255 := fun j j1 j2 => by
      have : (N.1 102 j).toInt.toNat = 255 := e3 j j1 j2
      have := h4 j j2
      exact Int32.toInt_inj.mp (by simp only [Int32.reduceToInt]; omega)
    have CC := mq_carc (M := (mm_pl (mm_pl (mm_pi (mm_pl M 80 4 (N.2.1 84 33 - b64)) 81 i x) 80 15 (N.2.1 84 53 + b64)) 80 15 ((N.2.1 84 53 + b64) &&& 4294967295))) (d := d) (e := e) d3 (by omega) e1 (by show 0 ≤ (M.1 6 (13 + e)).toInt; rw [(h4 e e1).1]; exact n0) (by show (M.1 6 (13 + e)).toInt < 255; rw [(h4 e e1).1]; omega) (fun j j1 j2 => by show M.1 6 (13 + j) = 255; rw [(h4 j j2).1]; exact e3' j j1 j2)
    have CR := mq_carr (N := (mm_pi (mm_pl (mm_pl N 84 53 (N.2.1 84 53 + b64)) 84 33 (N.2.1 84 33 - b64)) 98 (mq_mp i) x)) (d := d) (e := e) d1 (by omega) e1 (by show (N.1 102 e).toInt < 255; omega) (fun j j1 j2 => e3' j j1 j2) cy
    refine mq_2_Bf (mq_12 CC CR) ?_
    rintro _ M2 _ N2 ⟨⟨a1, a2, a3, ka⟩, ⟨b1, b2, b3, b4, kb⟩⟩
    have a1 : ∀ j, (j < 13 + e ∨ 13 + d ≤ j) → M2.1 6 j = M.1 6 j := a1
    have a2 : M2.1 6 (13 + e) = M.1 6 (13 + e) + 1 := a2
    have b1 : ∀ j, (j < e ∨ d ≤ j) → N2.1 102 j = N.1 102 j := b1
    have b2 : N2.1 102 e = N.1 102 e + 1 := b2
    have eM : (M2.2.1 80 15).toInt = ((lw + Bq - 4294967296 : Nat) : Int) := by
      rw [(ka 80 15 rfl).2]
      show ((N.2.1 84 53 + b64) &&& 4294967295).toInt = _
      rw [mj_full (by omega), eL]
      omega
    have eN : M2.2.1 80 15 = N2.2.1 84 53 := by
      rw [(ka 80 15 rfl).2, b4]; rfl
    have e54 : N2.1 84 54 = N.1 84 54 := (kb 84 54 rfl).1
    have e51 : M2.1 5 1 = M.1 5 1 := (ka 5 1 rfl).1
    have e52 : M2.1 5 2 = M.1 5 2 := (ka 5 2 rfl).1
    have e41 : N2.1 84 41 = N.1 84 41 := (kb 84 41 rfl).1
    have up : (N.1 102 e + 1).toInt = (N.1 102 e).toInt + 1 := by rw [mi_add]; simp only [Int32.reduceToInt]; omega
    have v2 : mc_val (mq_dg N2) d = mc_val (mq_dg N) d + 1 := by
      refine mc_val_i (e := e) (fun j hj => ?_) ?_ e1 (fun j j1 j2 => ⟨e3 j j1 j2, ?_⟩)
      · show (N2.1 102 j).toInt.toNat = (N.1 102 j).toInt.toNat
        rw [b1 j (.inl hj)]
      · show (N2.1 102 e).toInt.toNat = (N.1 102 e).toInt.toNat + 1
        rw [b2, up]; omega
      · show (N2.1 102 j).toInt.toNat = 0
        rw [b3 j j1 j2]; rfl
    refine mq_cout (d := d) (st := st + 1) (R := R - Bq) (lw := lw + Bq - 4294967296) ⟨?_, ?_, by omega, by omega⟩ ⟨eN, by rw [← eN]; exact eM, by omega⟩ ⟨by rw [e54]; exact d1, d2, by rw [e51]; exact d3, by rw [e52]; exact d4, by rw [e41]; exact d5⟩ (fun j hj => ?_) (fun j hj => ?_) (fun k2 hk2 => ?_) ?_ ?_ ?_ hst
    · rw [(ka 80 4 rfl).2, (kb 84 33 rfl).2]; rfl
    · rw [(kb 84 33 rfl).2]; exact eR
    · rcases Nat.lt_trichotomy j e with z | z | z
      · rw [a1 _ (.inl (by omega)), b1 j (.inl z)]; exact h4 j hj
      · subst z
        rw [a2, b2, (h4 j hj).1]
        exact ⟨rfl, by omega, by omega⟩
      · rw [a3 j z hj, b3 j z hj]; exact ⟨rfl, by decide, by decide⟩
    · rw [a1 j (.inl (by omega)), (kb 100 j rfl).1]; exact h5 j hj
    · rw [(ka 81 k2 rfl).1, (kb 98 _ rfl).1]
      exact hctx k2 hk2
    · have e6 : mc_sum (mq_cs M2) 14340 = mc_sum (fun j => mc_ph ((mm_pi M 81 i x).1 81 j).toInt.toNat) 14340 := mc_sum_c (fun j _ => by show mc_ph (M2.1 81 j).toInt.toNat = _; rw [(ka 81 j rfl).1]; rfl)
      rw [e6]
      exact hinv
    · rw [v2]
      exact mc_ok_c h81 (by omega)
    · obtain ⟨t1, t2, t3, t4⟩ := h9
      refine ⟨?_, ?_, ?_, fun j hj => ?_⟩
      · rw [(ka 1 1 rfl).1, (kb 84 2 rfl).1]; exact t1
      · rw [(ka 1 1 rfl).1]; exact t2
      · rw [(ka 1 1 rfl).1]; exact t3
      · rw [(ka 1 1 rfl).1] at hj
        rw [(ka 2 j rfl).1, (kb 85 j rfl).1]
        exact t4 j hj
  · rw [if_neg cy]
    have cy2 := cy
    rw [Int64.lt_iff_toInt_lt, eL] at cy2
    simp only [Int64.reduceToInt] at cy2
    have e281 : mf_281 (mm_pi (mm_pl (mm_pl N 84 53 (N.2.1 84 53 + b64)) 84 33 (N.2.1 84 33 - b64)) 98 (mq_mp i) x) = some (.inl (), (mm_pi (mm_pl (mm_pl N 84 53 (N.2.1 84 53 + b64)) 84 33 (N.2.1 84 33 - b64)) 98 (mq_mp i) x)) := by
      unfold mf_281
      exact if_neg cy
    rw [e281, mq_Bs]
    exact mq_cout (d := d) (st := st + 1) (R := R - Bq) (lw := lw + Bq) ⟨rfl, eR, by omega, by omega⟩ ⟨rfl, eL, by omega⟩ ⟨d1, d2, d3, d4, d5⟩ h4 h5 hctx hinv (mc_ok_m h8 (by omega)) h9 hst
/-- a bit is written -/
theorem mq_cw {M N : mm_M} {v w b : Int32} {st d i : Nat} (h : mq_ce M N st d) (hi : i < 14340) (hv : v.toInt = i) (hw : w.toInt = mq_mp i) (hb : b = 0 ∨ b = 1) (hst : st + 1 ≤ 90000) : mq_2 mq_F (mf_172 v b M) (mf_282 w b N) (fun _ M2 _ N2 => ∃ d2, mq_ce M2 N2 (st + 1) d2) := by
  obtain ⟨R, lw, ⟨r1, r2, r3, r4⟩, ⟨l1, l2, l3⟩, ⟨d1, d2, d3, d4, d5⟩, h4, h5, h6, h7, h8, h9⟩ := h
  have hbd := mc_inv_b h7 r4
  have hlt := mq_mp_lt hi
  have hin : mm_in v 14340 = true := mq_inr (by omega) (by omega)
  have hjn : mm_in w 14540 = true := mq_inr (by omega) (by omega)
  have ni : v.toNatClampNeg = i := by rw [mq_cl]; omega
  have nj : w.toNatClampNeg = mq_mp i := by rw [mq_cl]; omega
  obtain ⟨c1, c2, c3⟩ := h6 i hi
  obtain ⟨c, hc⟩ : ∃ c : Nat, (M.1 81 i).toInt = c := ⟨(M.1 81 i).toInt.toNat, by omega⟩
  have k := mc_chk_c (c := c) (by omega) (by omega)
  have q1 : (N.2.1 84 33 / 2048).toInt = ((R / 2048 : Nat) : Int) := by rw [mj_div (by omega) (by decide), r2]; rfl
  have qc : (M.1 81 i).toInt64.toInt = c := by rw [Int32.toInt_toInt64]; exact hc
  have qb : R / 2048 * c ≤ R := by
    have a : R / 2048 * 2048 ≤ R := Nat.div_mul_le_self R 2048
    have b : R / 2048 * c ≤ R / 2048 * 2048 := Nat.mul_le_mul_left _ (by omega)
    omega
  have q2 : (N.2.1 84 33 / 2048 * (M.1 81 i).toInt64).toInt = ((R / 2048 * c : Nat) : Int) := by
    rw [mj_mul, q1, qc]
    have : ((R / 2048 : Nat) : Int) * (c : Int) = ((R / 2048 * c : Nat) : Int) := by simp
    rw [this]
    omega
  have lo1 : 253952 ≤ R / 2048 * c := by
    have a : 8192 ≤ R / 2048 := by omega
    have := Nat.mul_le_mul a (show 31 ≤ c from by omega)
    omega
  have lo2 : 253952 ≤ R - R / 2048 * c := by
    have a : R / 2048 * c ≤ R / 2048 * 2017 := Nat.mul_le_mul_left _ (by omega)
    omega
  -- the chance, one step on
  have ctx : ∀ x : Int32, 31 ≤ x.toInt → x.toInt ≤ 2017 → ∀ k2, k2 < 14340 → (mm_pi M 81 i x).1 81 k2 = (mm_pi N 98 (mq_mp i) x).1 98 (mq_mp k2) ∧ 31 ≤ ((mm_pi M 81 i x).1 81 k2).toInt ∧ ((mm_pi M 81 i x).1 81 k2).toInt ≤ 2017 := by
    intro x x0 x1 k2 hk2
    by_cases q : k2 = i
    · rw [q, mq_ps, mq_ps]; exact ⟨rfl, x0, x1⟩
    · rw [mq_pj q, mq_pj (fun z => q (mq_mp_inj z))]
      exact h6 k2 hk2
  have sm : ∀ x : Int32, ∀ x2 : Nat, x.toInt = x2 → mc_sum (fun j => mc_ph ((mm_pi M 81 i x).1 81 j).toInt.toNat) 14340 + mc_ph c = mc_sum (mq_cs M) 14340 + mc_ph x2 := by
    intro x x2 hx
    have := mc_sum_u (f := mq_cs M) (g := fun j => mc_ph ((mm_pi M 81 i x).1 81 j).toInt.toNat) (i := i) (n := 14340) hi (fun j hj => by show mc_ph ((mm_pi M 81 i x).1 81 j).toInt.toNat = _; rw [mq_pj hj]; rfl)
    have e1 : mq_cs M i = mc_ph c := by show mc_ph (M.1 81 i).toInt.toNat = _; rw [hc]; rfl
    have e2 : mc_ph ((mm_pi M 81 i x).1 81 i).toInt.toNat = mc_ph x2 := by rw [mq_ps, hx]; rfl
    rw [e1, e2] at this
    exact this
  unfold mf_172 mf_282
  rw [if_pos hin, if_pos hin, if_pos hin, if_pos hjn, if_pos hjn, if_pos hjn, if_pos hjn, if_pos hjn, if_pos hjn, if_pos hjn, ni, nj, ← c1, r1, l1]
  rcases hb with rfl | rfl
  · rw [if_pos rfl, if_pos rfl]
    have ex : (M.1 81 i + (2048 - M.1 81 i) / 32).toInt = ((c + (2048 - c) / 32 : Nat) : Int) := by
      have a : (2048 - M.1 81 i).toInt = 2048 - c := by rw [mi_sub, hc]; simp only [Int32.reduceToInt]; omega
      have b : ((2048 - M.1 81 i) / 32).toInt = (2048 - (c : Int)) / 32 := by rw [mi_div (by omega) (by decide), a]; rfl
      rw [mi_add, b, hc]
      omega
    have := sm _ _ ex
    exact mq_cout (d := d) (st := st + 1) (R := R / 2048 * c) (lw := lw) ⟨rfl, q2, by omega, by omega⟩ ⟨l1, l2, l3⟩ ⟨d1, d2, d3, d4, d5⟩ h4 h5 (ctx _ (by omega) (by omega)) (mc_inv_s h7 (mc_st0 r3 (by omega) (by omega)) this) (mc_ok_m h8 (by omega)) h9 hst
  · rw [if_neg (show ¬ (1 : Int32) = 0 from by decide), if_neg (show ¬ (1 : Int32) = 0 from by decide)]
    have ex : (M.1 81 i - M.1 81 i / 32).toInt = ((c - c / 32 : Nat) : Int) := by
      have a : (M.1 81 i / 32).toInt = (c : Int) / 32 := by rw [mi_div (by omega) (by decide), hc]; rfl
      rw [mi_sub, a, hc]
      omega
    have e5 := sm _ _ ex
    have := mq_cw1 (M := M) (N := N) (st := st) (i := i) (Bq := R / 2048 * c) (b64 := N.2.1 84 33 / 2048 * (M.1 81 i).toInt64) (x := M.1 81 i - M.1 81 i / 32) r2 r4 l2 l3 d1 d2 d3 d4 d5 h4 h5 (ctx _ (by omega) (by omega)) (mc_inv_s h7 (mc_st1 (by omega) (by omega)) e5) h8 h9 hst (by omega) q2 qb lo2
    exact this
