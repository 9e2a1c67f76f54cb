/-! WRITING: BLOCKS -/
def mc_kc (s : Nat) : Nat := if s < 144 then 48 + s else if s < 256 then 400 + s - 144 else if s < 280 then s - 256 else 192 + s - 280
theorem mc_ct_k8 : ∀ s, s ≤ 288 → mc_ct mc_kf 8 s = if s ≤ 144 then s else if s ≤ 280 then 144 else s - 136
  | 0, _ => rfl
  | s + 1, h => by
    have ih := mc_ct_k8 s (by omega)
    show mc_ct mc_kf 8 s + (if mc_kf s = 8 then 1 else 0) = _
    rw [ih]
    unfold mc_kf
    repeat' split
    all_goals omega
theorem mc_ct_k9 : ∀ s, s ≤ 288 → mc_ct mc_kf 9 s = if s ≤ 144 then 0 else if s ≤ 256 then s - 144 else 112
  | 0, _ => rfl
  | s + 1, h => by
    have ih := mc_ct_k9 s (by omega)
    show mc_ct mc_kf 9 s + (if mc_kf s = 9 then 1 else 0) = _
    rw [ih]
    unfold mc_kf
    repeat' split
    all_goals omega
theorem mc_ct_k7 : ∀ s, s ≤ 288 → mc_ct mc_kf 7 s = if s ≤ 256 then 0 else if s ≤ 280 then s - 256 else 24
  | 0, _ => rfl
  | s + 1, h => by
    have ih := mc_ct_k7 s (by omega)
    show mc_ct mc_kf 7 s + (if mc_kf s = 7 then 1 else 0) = _
    rw [ih]
    unfold mc_kf
    repeat' split
    all_goals omega
theorem mc_ct_k0 {l : Nat} (h7 : l < 7) : ∀ s, mc_ct mc_kf l s = 0
  | 0 => rfl
  | s + 1 => by
    show mc_ct mc_kf l s + (if mc_kf s = l then 1 else 0) = 0
    rw [mc_ct_k0 h7 s, if_neg]
    unfold mc_kf
    split <;> (try split) <;> (try split) <;> omega
theorem mc_F_k : ∀ l, l < 8 → mc_F mc_kf 288 l = 0
  | 0, _ => rfl
  | l + 1, h => by
    show 2 * (mc_F mc_kf 288 l + mc_cn mc_kf 288 l) = 0
    rw [mc_F_k l (by omega)]
    unfold mc_cn
    rw [mc_ct_k0 (by omega)]
    split <;> rfl
theorem mc_F_s {f : Nat → Nat} {n l : Nat} : mc_F f n (l + 1) = 2 * (mc_F f n l + mc_cn f n l) := rfl
theorem mc_F_k8 : mc_F mc_kf 288 8 = 48 := by
  have e := mc_F_s (f := mc_kf) (n := 288) (l := 7)
  rw [mc_F_k 7 (by omega)] at e
  refine e.trans ?_
  unfold mc_cn
  rw [if_neg (by decide), mc_ct_k7 288 (by omega), if_neg (by decide), if_neg (by decide)]
theorem mc_F_k9 : mc_F mc_kf 288 9 = 400 := by
  have e := mc_F_s (f := mc_kf) (n := 288) (l := 8)
  rw [mc_F_k8] at e
  refine e.trans ?_
  unfold mc_cn
  rw [if_neg (by decide), mc_ct_k8 288 (by omega), if_neg (by decide), if_neg (by decide)]
theorem mc_c_k {s : Nat} (h : s < 288) : mc_c mc_kf 288 s = mc_kc s := by
  unfold mc_c mc_kc
  by_cases c1 : s < 144
  · have e : mc_kf s = 8 := by unfold mc_kf; rw [if_pos c1]
    rw [e, mc_F_k8, mc_ct_k8 s (by omega), if_pos (by omega), if_pos c1]
  rw [if_neg c1]
  by_cases c2 : s < 256
  · have e : mc_kf s = 9 := by unfold mc_kf; rw [if_neg c1, if_pos c2]
    rw [e, mc_F_k9, mc_ct_k9 s (by omega), if_pos c2]
    by_cases c3 : s ≤ 144
    · rw [if_pos c3]; omega
    · rw [if_neg c3, if_pos (by omega)]; omega
  rw [if_neg c2]
  by_cases c3 : s < 280
  · have e : mc_kf s = 7 := by unfold mc_kf; rw [if_neg c1, if_neg c2, if_pos c3]
    rw [e, mc_F_k 7 (by omega), mc_ct_k7 s (by omega), if_pos c3]
    by_cases c4 : s ≤ 256
    · rw [if_pos c4]; omega
    · rw [if_neg c4, if_pos (by omega)]; omega
  · have e : mc_kf s = 8 := by unfold mc_kf; rw [if_neg c1, if_neg c2, if_neg c3]
    rw [e, mc_F_k8, mc_ct_k8 s (by omega), if_neg c3]
    rw [if_neg (by omega)]
    by_cases c4 : s ≤ 280
    · rw [if_pos c4]; omega
    · rw [if_neg c4]; omega
theorem mq_wletter {M N : mm_M} {v : Int32} (h : mq_P M N) (hf : M.1 5 3 = N.1 84 13) (hR : mq_TR 0 mc_kf 288 N) (v0 : 0 ≤ v.toInt) (v1 : v.toInt < 288) (hz : mq_z N ≤ 900000000) : mq_2 mq_F (mf_92 v M) (mf_253 v N) (mq_po 9 M N) := by
  obtain ⟨s, hs⟩ : ∃ s : Nat, v.toInt = s := ⟨v.toInt.toNat, by omega⟩
  have sl : s < 288 := by omega
  have ev : v.toNatClampNeg = s := by rw [mq_cl]; omega
  obtain ⟨r1, r2⟩ := hR s sl
  rw [show 300 * 0 + s = s from by omega] at r1 r2
  have hk0 : mc_kf s ≠ 0 := by unfold mc_kf; split <;> (try split) <;> (try split) <;> omega
  have r2 := r2 hk0
  rw [mc_c_k sl] at r2
  unfold mf_253
  rw [if_pos (mq_inr v0 (by omega)), if_pos (mq_inr v0 (by omega)), ev]
  have fin : ∀ c n : Int32, c.toInt = mc_kc s → n.toInt = mc_kf s → mq_2 mq_F (mm_B (mf_63 c n M) (fun _ M1 => (some (.inl (), M1) : mm_O Unit))) (mm_B (mf_249 (N.1 88 s).toInt64 (N.1 87 s) (1 : Int32) N) (fun _ M1 => (some (.inl (), M1) : mm_O Unit))) (mq_po 9 M N) := by
    intro c n hc hn
    have e1 : N.1 88 s = c := Int32.toInt_inj.mp (by omega)
    have e2 : N.1 87 s = n := Int32.toInt_inj.mp (by omega)
    rw [e1, e2]
    have k9 : mc_kf s ≤ 9 := by unfold mc_kf; split <;> (try split) <;> (try split) <;> omega
    refine mq_2_Bf (mq_wcode h hf (by omega) (by omega) (by omega)) ?_
    rintro _ M2 _ N2 ⟨p, z, k1, k2⟩
    exact mq_2_ret ⟨p, by omega, k1, k2⟩
  unfold mf_92
  by_cases c1 : v < 144
  · rw [if_pos c1]
    rw [Int32.lt_iff_toInt_lt] at c1
    simp only [Int32.reduceToInt] at c1
    have k1 : mc_kc s = 48 + s := by unfold mc_kc; rw [if_pos (by omega)]
    have k2 : mc_kf s = 8 := by unfold mc_kf; rw [if_pos (by omega)]
    exact fin _ _ (by rw [k1, mi_add]; simp only [Int32.reduceToInt]; omega) (by rw [k2]; rfl)
  rw [if_neg c1]
  rw [Int32.lt_iff_toInt_lt] at c1
  simp only [Int32.reduceToInt] at c1
  by_cases c2 : v < 256
  · rw [if_pos c2]
    rw [Int32.lt_iff_toInt_lt] at c2
    simp only [Int32.reduceToInt] at c2
    have k1 : mc_kc s = 400 + s - 144 := by unfold mc_kc; rw [if_neg (by omega), if_pos (by omega)]
    have k2 : mc_kf s = 9 := by unfold mc_kf; rw [if_neg (by omega), if_pos (by omega)]
    have e : (400 + v).toInt = 400 + v.toInt := by rw [mi_add]; simp only [Int32.reduceToInt]; omega
    exact fin _ _ (by rw [k1, mi_sub, e]; simp only [Int32.reduceToInt]; omega) (by rw [k2]; rfl)
  rw [if_neg c2]
  rw [Int32.lt_iff_toInt_lt] at c2
  simp only [Int32.reduceToInt] at c2
  by_cases c3 : v < 280
  · rw [if_pos c3]
    rw [Int32.lt_iff_toInt_lt] at c3
    simp only [Int32.reduceToInt] at c3
    have k1 : mc_kc s = s - 256 := by unfold mc_kc; rw [if_neg (by omega), if_neg (by omega), if_pos (by omega)]
    have k2 : mc_kf s = 7 := by unfold mc_kf; rw [if_neg (by omega), if_neg (by omega), if_pos (by omega)]
    exact fin _ _ (by rw [k1, mi_sub]; simp only [Int32.reduceToInt]; omega) (by rw [k2]; rfl)
  rw [if_neg c3]
  rw [Int32.lt_iff_toInt_lt] at c3
  simp only [Int32.reduceToInt] at c3
  have k1 : mc_kc s = 192 + s - 280 := by unfold mc_kc; rw [if_neg (by omega), if_neg (by omega), if_neg (by omega)]
  have k2 : mc_kf s = 8 := by unfold mc_kf; rw [if_neg (by omega), if_neg (by omega), if_neg (by omega)]
  have e : (192 + v).toInt = 192 + v.toInt := by rw [mi_add]; simp only [Int32.reduceToInt]; omega
  exact fin _ _ (by rw [k1, mi_sub, e]; simp only [Int32.reduceToInt]; omega) (by rw [k2]; rfl)
theorem mq_TRk {t : Nat} {f : Nat → Nat} {n : Nat} {N N2 : mm_M} {w : List (Nat × Option Nat)} (h : mq_TR t f n N) (k : mq_kp w N N2) (hw : ∀ i, mq_ws w 87 i = false ∧ mq_ws w 88 i = false) : mq_TR t f n N2 := fun s hs => by
  rw [(k 87 _ (hw _).1).1, (k 88 _ (hw _).2).1]
  exact h s hs
/-- a copy's two numbers -/
theorem mq_wcopy {M N : mm_M} {at_ L d : Int32} (h : mq_P M N) (hf : M.1 5 3 = 0) (hf2 : N.1 84 13 = 0) (hR : mq_TR 0 mc_kf 288 N) (b1 : M.1 13 0 = L) (b2 : N.1 84 44 = L) (d1 : M.1 13 1 = d) (d2 : N.1 84 45 = d) (l0 : 3 ≤ L.toInt) (l1 : L.toInt ≤ 258) (g0 : 1 ≤ d.toInt) (g1 : d.toInt ≤ 10000) (hz : mq_z N ≤ 900000000) :
    mq_2 mq_F (mm_B (mf_94 (M.1 13 0) M) (fun r3 M4 => mm_B (mf_92 r3 M4) (fun _ M5 => mm_B (mf_95 (M5.1 13 0) M5) (fun r6 M7 => mm_B (mf_62 ((M5.1 13 0) - (3 : Int32)).toInt64 r6 M7) (fun _ M8 => mm_B (mf_93 (M8.1 13 1) M8) (fun _ M9 => (some (.inl (.inl (at_ + (M9.1 13 0))), M9) : mm_O (Int32 ⊕ Unit))))))))
      (mm_B (mf_254 (N.1 84 44) N) (fun r3 M4 => mm_B (mf_253 r3 M4) (fun _ M5 => if r3 = (285 : Int32) then (mf_260_j106 at_ r3 (0 : Int64) M5) else (mm_B (mf_255 r3 M5) (fun r6 M7 => mf_260_j106 at_ r3 ((M5.1 84 44) - r6).toInt64 M7)))))
      (fun r M2 t N2 => r = .inl (at_ + L) ∧ t = .inl (at_ + L) ∧ mq_po 45 M N () M2 () N2) := by
  rw [b1, b2]
  obtain ⟨s, e, x1, x2, y1, y2, s0, s1, e0, e1, hse⟩ := mq_len (L := L) (M := M) (N := N) l0 l1
  rw [x1, y1, mq_Bs, mq_Bs]
  refine mq_2_Bf (mq_wletter h (by rw [hf, hf2]) hR (by omega) (by omega) (by omega)) ?_
  rintro _ M5 _ N5 ⟨p5, z5, k1, k2⟩
  have c1 : M5.1 13 0 = L := by rw [(k1 13 0 rfl).1]; exact b1
  have c2 : N5.1 84 44 = L := by rw [(k2 84 44 rfl).1]; exact b2
  have c3 : M5.1 5 3 = 0 := by rw [(k1 5 3 rfl).1]; exact hf
  have c4 : N5.1 84 13 = 0 := by rw [(k2 84 13 rfl).1]; exact hf2
  have c5 : M5.1 13 1 = d := by rw [(k1 13 1 rfl).1]; exact d1
  have c6 : N5.1 84 45 = d := by rw [(k2 84 45 rfl).1]; exact d2
  obtain ⟨s', e', x1', x2', y1', y2', _⟩ := mq_len (L := L) (M := M5) (N := N5) l0 l1
  have es : s' = s := by
    obtain ⟨s3, e3, u1, u2, u3, u4, _⟩ := mq_len (L := L) (M := M5) (N := N) l0 l1
    have q1 : s3 = s := by rw [y1] at u3; cases u3; rfl
    have q2 : s3 = s' := by rw [x1'] at u1; cases u1; rfl
    rw [← q2, q1]
  subst es
  have ee : e' = e := by
    obtain ⟨s3, e3, u1, u2, u3, u4, _⟩ := mq_len (L := L) (M := M5) (N := N) l0 l1
    have q0 : s3 = s' := by rw [y1] at u3; cases u3; rfl
    subst q0
    have q1 : e3 = e := by rw [y2] at u4; cases u4; rfl
    have q2 : e3 = e' := by rw [x2'] at u2; cases u2; rfl
    rw [← q2, q1]
  subst ee
  rw [c1, x2', mq_Bs]
  -- the rest, for a value whose low bits are those of the class's
  have rest : ∀ w : Int64, (∀ k : Int32, 0 ≤ k.toInt → k.toInt < e'.toInt → (mm_lshr (L - 3).toInt64 k).toInt32 &&& 1 = (mm_lshr w k).toInt32 &&& 1) → mq_2 mq_F (mm_B (mf_62 (L - (3 : Int32)).toInt64 e' M5) (fun _ M8 => mm_B (mf_93 (M8.1 13 1) M8) (fun _ M9 => (some (.inl (.inl (at_ + (M9.1 13 0))), M9) : mm_O (Int32 ⊕ Unit))))) (mf_260_j106 at_ s' w N5) (fun r M2 t N2 => r = .inl (at_ + L) ∧ t = .inl (at_ + L) ∧ mq_po 45 M N () M2 () N2) := by
    intro w hw
    unfold mf_260_j106
    rw [y2', mq_Bs]
    refine mq_2_Bf (mq_wbits' p5 (by rw [c3, c4]) c4.symm e0 (by omega) hw) ?_
    rintro _ M8 _ N8 ⟨p8, z8, k3, k4⟩
    have d5 : M8.1 13 1 = d := by rw [(k3 13 1 rfl).1]; exact c5
    have d6 : N8.1 84 45 = d := by rw [(k4 84 45 rfl).1]; exact c6
    have d3 : M8.1 5 3 = 0 := by rw [(k3 5 3 rfl).1]; exact c3
    have d4 : N8.1 84 13 = 0 := by rw [(k4 84 13 rfl).1]; exact c4
    have d7 : M8.1 13 0 = L := by rw [(k3 13 0 rfl).1]; exact c1
    have d8 : N8.1 84 44 = L := by rw [(k4 84 44 rfl).1]; exact c2
    rw [d5, d6]
    obtain ⟨t, f, u1, u2, u3, u4, t0, t1, f0, f1, hm⟩ := mq_wdist (d := d) (M := M8) (N := N8) g0 (by omega)
    unfold mf_93
    rw [u1, mq_Bs, u3, mq_Bs]
    have ej : (if d - 1 < 4 then mf_93_j33 f (d - 1) (d - 1) M8 else mf_93_j33 f (d - 1) (2 * f + 2 + (mm_shr (d - 1) f &&& 1)) M8) = mf_93_j33 f (d - 1) t M8 := by
      rw [u2]
      by_cases c : d - 1 < 4
      · rw [if_pos c, if_pos c]
      · rw [if_neg c, if_neg c]
    rw [ej]
    unfold mf_93_j33
    rw [mq_Ba]
    refine mq_2_Bf (mq_wcode p8 (by rw [d3, d4]) (by decide) (by decide) (by simp only [Int32.reduceToInt]; omega)) ?_
    rintro _ M9 _ N9 ⟨p9, z9, k5, k6⟩
    simp only [Int32.reduceToInt] at z9
    have g3 : M9.1 5 3 = 0 := by rw [(k5 5 3 rfl).1]; exact d3
    have g4 : N9.1 84 13 = 0 := by rw [(k6 84 13 rfl).1]; exact d4
    have g6 : N9.1 84 45 = d := by rw [(k6 84 45 rfl).1]; exact d6
    have g7 : M9.1 13 0 = L := by rw [(k5 13 0 rfl).1]; exact d7
    have g8 : N9.1 84 44 = L := by rw [(k6 84 44 rfl).1]; exact d8
    obtain ⟨t', f', v1, v2, v3, v4, _⟩ := mq_wdist (d := d) (M := M8) (N := N9) g0 (by omega)
    have ef : f' = f := by rw [u1] at v1; cases v1; rfl
    subst ef
    have et : t' = t := by rw [v2, u2]
    subst et
    rw [mp_256_is, mq_Bs, v4, mq_Bs, g6, mq_Ba]
    have hd1 : (d - 1).toInt = d.toInt - 1 := by rw [mi_sub]; simp only [Int32.reduceToInt]; omega
    refine mq_2_Bf (mq_wbits' p9 (by rw [g3, g4]) g4.symm f0 (by omega) (fun k k0 k1 => mi_bitmod (v := d - 1) (w := d - mp_256 t') (e := f'.toInt.toNat) (by omega) (by rw [hm, hd1]) k0 (by omega) (by omega))) ?_
    rintro _ M10 _ N10 ⟨p10, z10, k7, k8⟩
    have h7 : M10.1 13 0 = L := by rw [(k7 13 0 rfl).1]; exact g7
    have h8 : N10.1 84 44 = L := by rw [(k8 84 44 rfl).1]; exact g8
    rw [mq_Bs, h7, h8]
    exact mq_2_ret ⟨rfl, rfl, p10, by omega, mq_kp_trans k1 (mq_kp_trans k3 (mq_kp_trans k5 k7)), mq_kp_trans k2 (mq_kp_trans k4 (mq_kp_trans k6 k8))⟩
  rcases hse with ⟨q1, q2⟩ | ⟨q1, q2, q3⟩
  · rw [if_pos q1]
    refine rest 0 (fun k k0 k1 => ?_)
    rw [q2] at k1
    simp only [Int32.reduceToInt] at k1
    omega
  · rw [if_neg q1, mp_255_is, mq_Bs, c2]
    have hl3 : (L - 3).toInt = L.toInt - 3 := by rw [mi_sub]; simp only [Int32.reduceToInt]; omega
    exact rest _ (fun k k0 k1 => mi_bitmod (v := L - 3) (w := L - mp_255 s') (e := e'.toInt.toNat) (by omega) (by rw [q3, hl3]) k0 (by omega) (by omega))
/-- a BLOCK is written -/
theorem mq_pblock {M N : mm_M} (h : mq_P M N) (hf : M.1 5 3 = 0) (hz : mq_z N ≤ 100000) : mq_2 mq_F (mf_91 M) (mf_260 N) (fun _ M2 _ N2 => mq_P M2 N2 ∧ mq_z N2 ≤ mq_z N + 200000) := by
  have s10 := h.1.1.2.2.1
  have s0 := h.1.1.2.1
  obtain ⟨sz, hsz⟩ : ∃ sz : Nat, (M.1 1 1).toInt = sz := ⟨(M.1 1 1).toInt.toNat, by omega⟩
  unfold mf_91 mf_260
  obtain ⟨_, N1, y1, ⟨hR, _, _, _⟩, kn⟩ := mq_1_K (mq_fixed (N := mm_pi N 84 13 0)) mk_205
  rw [y1, mq_Bs]
  have hP1 : mq_P M N1 := mq_P_kp (N := mm_pi N 84 13 0) h (mq_kp_refl (l := [])) kn rfl rfl
  have f1 : N1.1 84 13 = 0 := (kn 84 13 rfl).1
  have z1 : mq_z N1 = mq_z N := mq_z_kp (N := mm_pi N 84 13 0) kn rfl rfl
  refine mq_2_Bf (mq_wbits hP1 (by rw [hf, f1]) f1.symm (by decide) (by simp only [Int32.reduceToInt]; omega)) ?_
  rintro _ M2 _ N2 ⟨p2, z2, k1, k2⟩
  simp only [Int32.reduceToInt] at z2
  refine mq_2_Bf (mq_wbits p2 (by rw [(k1 5 3 rfl).1, (k2 84 13 rfl).1, hf, f1]) (by rw [(k2 84 13 rfl).1, f1]) (by decide) (by simp only [Int32.reduceToInt]; omega)) ?_
  rintro _ M3 _ N3 ⟨p3, z3, k3, k4⟩
  simp only [Int32.reduceToInt] at z3
  have e11 : M3.1 1 1 = M.1 1 1 := by rw [(k3 1 1 rfl).1]; exact (k1 1 1 rfl).1
  obtain ⟨_, M4, x4, hF, k0⟩ := mq_fstart (M := M3) (sz := sz) (by rw [e11]; exact hsz) (by omega)
  rw [x4, mq_Bs]
  have hP4 : mq_P M4 N3 := mq_P_kp p3 k0 (mq_kp_refl (l := [])) rfl rfl
  have e14 : M4.1 1 1 = M.1 1 1 := by rw [(k0 1 1 rfl).1]; exact e11
  have f4 : M4.1 5 3 = 0 := by rw [(k0 5 3 rfl).1, (k3 5 3 rfl).1, (k1 5 3 rfl).1]; exact hf
  have g4 : N3.1 84 13 = 0 := by rw [(k4 84 13 rfl).1, (k2 84 13 rfl).1]; exact f1
  have hR3 : mq_TR 0 mc_kf 288 N3 := mq_TRk (mq_TRk hR k2 (fun _ => ⟨rfl, rfl⟩)) k4 (fun _ => ⟨rfl, rfl⟩)
  refine mq_2_Bf (P := fun _ M2 _ N2 => mq_P M2 N2 ∧ M2.1 5 3 = 0 ∧ N2.1 84 13 = 0 ∧ mq_TR 0 mc_kf 288 N2 ∧ mq_z N2 ≤ mq_z N3 + 160000) ?_ ?_
  · unfold mf_91_L27 mf_260_L25
    refine mq_2_Lf (I := fun (a : Int32) M2 (b : Int32) N2 => a = b ∧ 0 ≤ a.toInt ∧ a.toInt ≤ (M.1 1 1).toInt ∧ mq_P M2 N2 ∧ M2.1 1 1 = M.1 1 1 ∧ M2.1 5 3 = 0 ∧ N2.1 84 13 = 0 ∧ mq_TR 0 mc_kf 288 N2 ∧ mq_z N2 ≤ mq_z N3 + 16 * a.toInt ∧ ∃ F : Nat, (F : Int) ≤ a.toInt ∧ mq_FI (M3.1 2) sz F M2) (m := fun a _ => ((M.1 1 1).toInt - a.toInt).toNat) ?_ ⟨rfl, by decide, s0, hP4, e14, f4, g4, hR3, by simp only [Int32.reduceToInt]; omega, 0, by decide, hF⟩
    rintro a M5 b N5 ⟨rfl, a0, a1, hP, es, f5, g5, hR5, z5, F, hFa, hF5⟩
    unfold mf_91_b27 mf_260_b25
    have eN : N5.1 84 2 = M.1 1 1 := by rw [← hP.1.1.1]; exact es
    rw [es, eN]
    by_cases c : a < M.1 1 1
    · rw [if_pos c, if_pos c]
      rw [Int32.lt_iff_toInt_lt] at c
      obtain ⟨p, hp⟩ : ∃ p : Nat, a.toInt = p := ⟨a.toInt.toNat, by omega⟩
      obtain ⟨lim, hlim⟩ : ∃ lim : Nat, (lim : Int) = if (M.1 1 1).toInt - a.toInt < 258 then (M.1 1 1).toInt - a.toInt else 258 := ⟨(if (M.1 1 1).toInt - a.toInt < 258 then (M.1 1 1).toInt - a.toInt else 258).toNat, by split <;> omega⟩
      have hl258 : lim ≤ 258 := by
        by_cases q : (M.1 1 1).toInt - a.toInt < 258
        · rw [if_pos q] at hlim; omega
        · rw [if_neg q] at hlim; omega
      have hl10 : (lim : Int) ≤ (M.1 1 1).toInt - a.toInt := by
        by_cases q : (M.1 1 1).toInt - a.toInt < 258
        · rw [if_pos q] at hlim; omega
        · rw [if_neg q] at hlim; omega
      refine mq_2_Bf (mq_fl (lim := lim) (p := p) hP.1.1 hF5 (by rw [es]; exact hsz) (by omega) hp (by omega) (by decide) (by rw [hlim, ← hsz, ← hp]; rfl) (by omega) (by omega) (by decide) (by rw [hlim, ← hp]; rfl) (by decide)) ?_
      rintro _ M6 _ N6 ⟨⟨G, hG, hF6⟩, k5, k6, hb⟩
      have hP6 : mq_P M6 N6 := mq_P_kp hP k5 k6 rfl rfl
      have es6 : M6.1 1 1 = M.1 1 1 := by rw [(k5 1 1 rfl).1]; exact es
      have z6 : mq_z N6 = mq_z N5 := mq_z_kp k6 rfl rfl
      have f6 : M6.1 5 3 = 0 := by rw [(k5 5 3 rfl).1]; exact f5
      have g6 : N6.1 84 13 = 0 := by rw [(k6 84 13 rfl).1]; exact g5
      have hR6 : mq_TR 0 mc_kf 288 N6 := mq_TRk hR5 k6 (fun _ => ⟨rfl, rfl⟩)
      have ea : (a + 1).toInt = a.toInt + 1 := by rw [mi_add]; simp only [Int32.reduceToInt]; omega
      by_cases d : N6.1 84 44 < 3
      · have d' : M6.1 13 0 < 3 := by
          rcases hb with ⟨q0, q, _⟩ | ⟨_, q⟩
          · rw [q]; exact d
          · rw [q]; decide
        rw [if_pos d, if_pos d']
        have hin : mm_in a 10000 = true := mq_inr (by omega) (by omega)
        rw [if_pos hin, if_pos hin]
        obtain ⟨q1, q2, q3⟩ := hP6.1.1.2.2.2 a.toNatClampNeg (by rw [mq_cl, es6]; omega)
        rw [← q1]
        refine mq_2_Bf (mq_wletter hP6 (by rw [f6, g6]) hR6 q2 (by omega) (by omega)) ?_
        rintro _ M7 _ N7 ⟨p7, z7, k7, k8⟩
        exact mq_2_ret (.inl ⟨_, _, rfl, rfl, ⟨rfl, by omega, by omega, p7, by rw [(k7 1 1 rfl).1]; exact es6, by rw [(k7 5 3 rfl).1]; exact f6, by rw [(k8 84 13 rfl).1]; exact g6, mq_TRk hR6 k8 (fun _ => ⟨rfl, rfl⟩), by omega, G, by omega, mq_FI_kp hF6 k7 rfl rfl (fun _ => rfl) (fun _ => rfl) (fun _ => rfl)⟩, by omega⟩)
      · rw [if_neg d]
        rw [Int32.lt_iff_toInt_lt] at d
        simp only [Int32.reduceToInt] at d
        obtain ⟨_, q1, q2, q3, q4, q5⟩ := hb.resolve_right (fun q => by omega)
        rw [if_neg (by rw [q1, Int32.lt_iff_toInt_lt]; simp only [Int32.reduceToInt]; omega)]
        refine mq_2_mono (mq_wcopy (at_ := a) hP6 f6 g6 hR6 q1 rfl q2 rfl (by omega) (by omega) q3 (by omega) (by omega)) ?_ (fun _ _ _ q => q)
        rintro r M7 t N7 ⟨rfl, rfl, p7, z7, k7, k8⟩
        have eb : (a + N6.1 84 44).toInt = a.toInt + (N6.1 84 44).toInt := by rw [mi_add]; omega
        exact .inl ⟨_, _, rfl, rfl, ⟨rfl, by omega, by omega, p7, by rw [(k7 1 1 rfl).1]; exact es6, by rw [(k7 5 3 rfl).1]; exact f6, by rw [(k8 84 13 rfl).1]; exact g6, mq_TRk hR6 k8 (fun _ => ⟨rfl, rfl⟩), by omega, G, by omega, mq_FI_kp hF6 k7 rfl rfl (fun _ => rfl) (fun _ => rfl) (fun _ => rfl)⟩, by omega⟩
    · rw [if_neg c, if_neg c]
      exact mq_2_ret (.inr ⟨_, _, rfl, rfl, hP, f5, g5, hR5, by omega⟩)
  · rintro _ M5 _ N5 ⟨p5, f5, g5, hR5, z5⟩
    unfold mf_91_j144 mf_260_j159
    refine mq_2_Bf (mq_wletter p5 (by rw [f5, g5]) hR5 (by decide) (by decide) (by omega)) ?_
    rintro _ M6 _ N6 ⟨p6, z6, k5, k6⟩
    refine mq_2_Bf (mq_wrest p6 (by omega)) ?_
    rintro _ M7 _ N7 ⟨p7, z7, _, _⟩
    exact mq_2_ret ⟨p7, by omega⟩
