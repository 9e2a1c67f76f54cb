/-! WRITING: PIECES -/
theorem mq_BR_ext {t u : Nat → Int32} {p lim b d n : Nat} (he : ∀ j, j < n → t j = u j) (hb : p + lim ≤ n) (h : mq_BR t p lim (p + 1) b d) : mq_BR u p lim (p + 1) b d := by
  obtain ⟨h1, h2, h3⟩ := h
  have he' : ∀ j, j < n → u j = t j := fun j hj => (he j hj).symm
  refine ⟨h1, fun e l e1 e2 hm => h2 e l e1 e2 (mq_mt_ext he' hb (by omega) hm), ?_⟩
  rcases h3 with h3 | ⟨x1, x2, x3, x4, x5⟩
  · exact .inl h3
  · exact .inr ⟨x1, x2, x3, mq_mt_ext he hb (by omega) x4, fun e l e1 e2 hm => x5 e l e1 e2 (mq_mt_ext he' hb (by omega) hm)⟩
/-- both look -/
theorem mq_fl {M N : mm_M} {v1 v2 w2 v3 w4 : Int32} {t : Nat → Int32} {sz E p lim : Nat} (hT : mq_T M N) (hF : mq_FI t sz E M) (hsz : (M.1 1 1).toInt = sz) (hE : E ≤ p) (hp : v1.toInt = p) (hps : p ≤ sz) (h2 : 0 ≤ v2.toInt) (hl : (lim : Int) = if (sz : Int) - p < v2.toInt then (sz : Int) - p else v2.toInt) (h4 : w4.toInt ≤ 10000) (h5 : (p : Int) ≤ w4.toInt) (h6 : 0 ≤ w2.toInt) (hl2 : (lim : Int) = if w4.toInt - p < w2.toInt then w4.toInt - p else w2.toInt) (hf : 10000 < v3.toInt) :
    mq_2 mq_F (mf_71 v1 v2 M) (mf_250 v1 w2 v3 w4 N) (fun _ M2 _ N2 => (∃ F, F ≤ p ∧ mq_FI t sz F M2) ∧ mq_kp mw_71 M M2 ∧ mq_kp mw_250 N N2 ∧ ((3 ≤ (N2.1 84 44).toInt ∧ M2.1 13 0 = N2.1 84 44 ∧ M2.1 13 1 = N2.1 84 45 ∧ 1 ≤ (N2.1 84 45).toInt ∧ (N2.1 84 45).toInt ≤ p ∧ (N2.1 84 44).toInt ≤ lim) ∨ ((N2.1 84 44).toInt < 3 ∧ M2.1 13 0 = 0))) := by
  have hs10 := hF.2.1
  have hlim : p + lim ≤ sz := by
    by_cases c : (sz : Int) - p < v2.toInt
    · rw [if_pos c] at hl; omega
    · rw [if_neg c] at hl; omega
  refine mq_2_mono (mq_12 (mq_find hF hE hp hps h2 hl) (mq_look hp h4 h5 h6 hl2 (by omega) hf)) ?_ (fun _ _ _ q => q)
  rintro _ M2 _ N2 ⟨⟨⟨b, d, hb, hd, hB⟩, hF2, k1⟩, ⟨b2, d2, hb2, hd2, hB2⟩, k2⟩
  refine ⟨hF2, k1, k2, ?_⟩
  have he : ∀ j, j < sz → N.1 85 j = t j := fun j hj => by rw [← (hT.2.2.2 j (by rw [hsz]; omega)).1]; exact hF.2.2.1 j
  obtain ⟨y1, y2⟩ := mq_BCR hB (mq_BR_ext he hlim hB2)
  by_cases c : 3 ≤ b2
  · obtain ⟨z1, z2, z3, z4⟩ := y1 c
    have := hB2.1
    exact .inl ⟨by omega, Int32.toInt_inj.mp (by omega), Int32.toInt_inj.mp (by omega), by omega, by omega, by omega⟩
  · have z := y2 (by omega)
    exact .inr ⟨by omega, Int32.toInt_inj.mp (by rw [hb, z]; rfl)⟩
def mq_ext (n : Int) : Int := if n < 15 then 0 else (n - 15) / 255 + 1
theorem mq_ext_b {n : Int} (h : 0 ≤ n) : 0 ≤ mq_ext n ∧ mq_ext n ≤ n / 15 := by
  unfold mq_ext
  by_cases c : n < 15
  · rw [if_pos c]; omega
  · rw [if_neg c]; omega
theorem mq_2_Kf {α β : Type} {x : mm_O α} {y : mm_O β} {Q : α → mm_M → β → mm_M → Prop} {l l2 : List (Nat × Option Nat)} {M0 N0 : mm_M} (h : mq_2 mq_F x y Q) (hk : mq_K l M0 x) (hk2 : mq_K l2 N0 y) : mq_2 mq_F x y (fun a M b N => Q a M b N ∧ mq_kp l M0 M ∧ mq_kp l2 N0 N) := mq_2_mono (mq_2_K h hk hk2) (fun _ _ _ _ q => q) (fun _ _ _ q => q.1)
theorem mq_wmoreL {M N : mm_M} {n x : Int32} {Q R : Nat} (h : mq_P M N) (hq : ((n - 15) / 255).toInt = Q) (hx : x.toInt = ((255 * Q + R : Nat) : Int)) (hR : R < 255) (hQ : Q ≤ 100) (hz : mq_z N ≤ 900000000) : mq_2 mq_F (mf_132_L9 n 0 M) (mf_263_L5 x N) (fun _ M2 b N2 => mq_po (8 * Q) M N () M2 () N2 ∧ (N2.1 84 41).toInt = (N.1 84 41).toInt + Q ∧ b.toInt = R) := by
  unfold mf_132_L9 mf_263_L5
  refine mq_2_Lf (I := fun (a : Int32) M2 (b : Int32) N2 => ∃ k : Nat, a.toInt = k ∧ k ≤ Q ∧ b.toInt = ((255 * (Q - k) + R : Nat) : Int) ∧ mq_po (8 * k) M N () M2 () N2 ∧ (N2.1 84 41).toInt = (N.1 84 41).toInt + k) (m := fun a _ => ((Q : Int) - a.toInt).toNat) ?_ ⟨0, rfl, Nat.zero_le _, hx, ⟨h, by omega, mq_kp_refl, mq_kp_refl⟩, by omega⟩
  rintro a M2 b N2 ⟨k, ha, hk, hb, ⟨hP, z2, f1, f2⟩, hm⟩
  unfold mf_132_b9 mf_263_b5
  by_cases d : a < (n - 15) / 255
  · rw [if_pos d]
    rw [Int32.lt_iff_toInt_lt, hq] at d
    rw [if_neg (by rw [Int32.lt_iff_toInt_lt]; simp only [Int32.reduceToInt]; omega)]
    refine mq_2_Bf (mq_pb hP (by omega) (by decide)) ?_
    rintro _ M3 _ N3 ⟨⟨p3, z3, k1, k2⟩, m3⟩
    have e1 : (a + 1).toInt = ((k + 1 : Nat) : Int) := by rw [mi_add]; simp only [Int32.reduceToInt]; omega
    have e2 : (b + -255).toInt = ((255 * (Q - (k + 1)) + R : Nat) : Int) := by rw [mi_add]; simp only [Int32.reduceToInt]; omega
    have z4 : mq_z N3 ≤ mq_z N + 8 * ((k + 1 : Nat) : Int) := by omega
    have m4 : (N3.1 84 41).toInt = (N.1 84 41).toInt + ((k + 1 : Nat) : Int) := by omega
    exact mq_2_ret (.inl ⟨_, _, rfl, rfl, ⟨k + 1, e1, by omega, e2, ⟨p3, z4, mq_kp_trans f1 k1, mq_kp_trans f2 k2⟩, m4⟩, by omega⟩)
  · rw [if_neg d]
    rw [Int32.lt_iff_toInt_lt, hq] at d
    have ek : k = Q := by omega
    subst ek
    rw [if_pos (by rw [Int32.lt_iff_toInt_lt]; simp only [Int32.reduceToInt]; omega)]
    exact mq_2_ret (.inr ⟨_, _, rfl, rfl, ⟨hP, z2, f1, f2⟩, hm, by omega⟩)
theorem mq_wmore {M N : mm_M} {n : Int32} (h : mq_P M N) (n0 : 0 ≤ n.toInt) (n1 : n.toInt ≤ 20000) (hz : mq_z N ≤ 900000000) : mq_2 mq_F (mf_132 n M) (mf_263 n N) (fun a M2 b N2 => mq_po (8 * mq_ext n.toInt) M N a M2 b N2 ∧ (N2.1 84 41).toInt = (N.1 84 41).toInt + mq_ext n.toInt) := by
  have e0 : (n - 15).toInt = n.toInt - 15 := by rw [mi_sub]; simp only [Int32.reduceToInt]; omega
  unfold mf_132 mf_263 mq_ext
  by_cases c : n < 15
  · rw [if_pos c]
    rw [Int32.lt_iff_toInt_lt] at c
    simp only [Int32.reduceToInt] at c
    rw [if_pos c]
    have e2 : mf_263_L5 (n - 15) N = mm_B (mf_263_b5 (n - 15) N) (mm_nx (mm_L (fun s M => mf_263_b5 s M))) := mm_L_eq _ _ _
    have e3 : mf_263_L5 (n - 15) N = some (.inl (n - 15), N) := by
      rw [e2]
      unfold mf_263_b5
      rw [if_pos (by rw [Int32.lt_iff_toInt_lt, e0]; simp only [Int32.reduceToInt]; omega)]
      rfl
    rw [e3, mq_Bs]
    unfold mf_263_j28
    rw [if_pos (by rw [Int32.lt_iff_toInt_lt, e0]; simp only [Int32.reduceToInt]; omega)]
    exact mq_2_ret ⟨⟨h, by omega, mq_kp_refl, mq_kp_refl⟩, by omega⟩
  · rw [if_neg c]
    rw [Int32.lt_iff_toInt_lt] at c
    simp only [Int32.reduceToInt] at c
    rw [if_neg c]
    obtain ⟨Q, hQ⟩ : ∃ Q : Nat, (n.toInt - 15) / 255 = Q := ⟨((n.toInt - 15) / 255).toNat, by omega⟩
    obtain ⟨R, hR⟩ : ∃ R : Nat, (n.toInt - 15) % 255 = R := ⟨((n.toInt - 15) % 255).toNat, by omega⟩
    have ed : ((n - 15) / 255).toInt = Q := by rw [mi_div (by omega) (by decide), e0]; exact hQ
    have er : (mm_rem (n - 15) 255).toInt = R := by rw [mi_rem (by omega) (by decide), e0]; exact hR
    have r1 : R < 255 := by omega
    have q1 : Q ≤ 100 := by omega
    have x1 : (n - 15).toInt = ((255 * Q + R : Nat) : Int) := by omega
    rw [hQ]
    clear hQ hR e0
    refine mq_2_Bf (mq_wmoreL h ed x1 r1 q1 hz) ?_
    rintro _ M2 b N2 ⟨⟨hP, z2, f1, f2⟩, hm, hb⟩
    unfold mf_132_j37 mf_263_j28
    have e9 : b = mm_rem (n - 15) 255 := Int32.toInt_inj.mp (by rw [hb, er])
    rw [e9, if_neg (by rw [Int32.lt_iff_toInt_lt, er]; simp only [Int32.reduceToInt]; omega)]
    refine mq_2_Bf (mq_pb hP (by omega) (mi_and255 (by omega) (by omega))) ?_
    rintro _ M3 _ N3 ⟨⟨p3, z3, k1, k2⟩, m3⟩
    exact mq_2_ret ⟨⟨p3, by omega, mq_kp_trans f1 k1, mq_kp_trans f2 k2⟩, by omega⟩
theorem mi_tok : ∀ a b : Fin 16, (Int32.ofNat a.val * 16 + Int32.ofNat b.val) &&& 255 = mm_shl (Int32.ofNat a.val) 4 ||| Int32.ofNat b.val := by decide
theorem mi_tok' {a b : Int32} (a0 : 0 ≤ a.toInt) (a1 : a.toInt ≤ 15) (b0 : 0 ≤ b.toInt) (b1 : b.toInt ≤ 15) : (a * 16 + b) &&& 255 = mm_shl a 4 ||| b := by
  have ea : a = Int32.ofNat a.toInt.toNat := (Int32.ofNat_toNatClampNeg a (Int32.le_iff_toInt_le.mpr a0)).symm
  have eb : b = Int32.ofNat b.toInt.toNat := (Int32.ofNat_toNatClampNeg b (Int32.le_iff_toInt_le.mpr b0)).symm
  have h := mi_tok ⟨a.toInt.toNat, by omega⟩ ⟨b.toInt.toNat, by omega⟩
  dsimp only at h
  rw [← ea, ← eb] at h
  exact h
theorem mq_wpart {γ δ : Type} {f : mm_M → mm_O γ} {g : mm_M → mm_O δ} {R : γ → mm_M → δ → mm_M → Prop} {M N : mm_M} {v1 v2 lo v3 v4 v6 : Int32} (h : mq_P M N) (a0 : 0 ≤ v1.toInt) (a1 : v1.toInt ≤ v2.toInt) (a2 : v2.toInt ≤ (M.1 1 1).toInt) (l0 : 0 ≤ lo.toInt) (l1 : lo.toInt ≤ 15) (hz : mq_z N ≤ 800000000) (hs : ∀ M2 N2, mq_po (8 * (1 + mq_ext (v2.toInt - v1.toInt) + (v2.toInt - v1.toInt))) M N () M2 () N2 → (N2.1 84 41).toInt = (N.1 84 41).toInt + (1 + mq_ext (v2.toInt - v1.toInt) + (v2.toInt - v1.toInt)) → mq_2 mq_F (f M2) (g N2) R) {s1 : Int32} (hs1 : s1 = if v2 - v1 < 15 then v2 - v1 else 15) :
    mq_2 mq_F (mm_B (mf_131 v1 v2 lo M) (fun _ M1 => f M1)) (mm_B (mf_245 (mm_shl s1 4 ||| lo) N) (fun _ M1 => mm_B (mf_263 (v2 - v1) M1) (fun _ M2 => mm_B (mf_264_L62 v2 v3 v4 v6 v1 M2) (fun _ M3 => g M3)))) R := by
  have s10 := h.1.1.2.2.1
  have e0 : (v2 - v1).toInt = v2.toInt - v1.toInt := by rw [mi_sub]; omega
  have em : mm_min (v2 - v1) 15 = s1 := by
    unfold mm_min
    rw [hs1]
    by_cases c : 15 < v2 - v1
    · rw [if_pos c, if_neg (by rw [Int32.lt_iff_toInt_lt] at c ⊢; omega)]
    · rw [if_neg c]
      by_cases d : v2 - v1 < 15
      · rw [if_pos d]
      · rw [if_neg d]
        rw [Int32.lt_iff_toInt_lt] at c d
        exact Int32.toInt_inj.mp (by omega)
  have s0 : 0 ≤ s1.toInt ∧ s1.toInt ≤ 15 := by
    rw [hs1]
    by_cases d : v2 - v1 < 15
    · rw [if_pos d]
      rw [Int32.lt_iff_toInt_lt] at d
      simp only [Int32.reduceToInt] at d
      omega
    · rw [if_neg d]; decide
  unfold mf_131
  rw [em, mq_Ba]
  refine mq_2_Bf (mq_pb h (by omega) (mi_tok' s0.1 s0.2 l0 l1)) ?_
  rintro _ M2 _ N2 ⟨⟨p2, z2, k1, k2⟩, m2⟩
  rw [mq_Ba]
  refine mq_2_Bf (mq_wmore p2 (by omega) (by omega) (by omega)) ?_
  rintro _ M3 _ N3 ⟨⟨p3, z3, k3, k4⟩, m3⟩
  rw [mq_Ba]
  unfold mf_58
  rw [mq_Ba]
  have e13 : M3.1 1 1 = M.1 1 1 := by rw [(k3 1 1 rfl).1]; exact (k1 1 1 rfl).1
  have hx : mq_ext (v2 - v1).toInt ≤ 100 := by
    unfold mq_ext
    by_cases c : (v2 - v1).toInt < 15
    · rw [if_pos c]; omega
    · rw [if_neg c]; omega
  refine mq_2_Bf (mq_wall (s2 := fun s M => mf_264_b62 v2 v3 v4 v6 s M) (g := fun _ => ()) (fun _ _ => rfl) p3 a0 a1 (by rw [e13]; exact a2) (by omega)) ?_
  rintro _ M4 _ N4 ⟨_, ⟨p4, z4, k5, k6⟩, m4⟩
  rw [e0] at z3 m3
  exact hs M4 N4 ⟨p4, by omega, mq_kp_trans k1 (mq_kp_trans k3 k5), mq_kp_trans k2 (mq_kp_trans k4 k6)⟩ (by omega)
theorem mq_264 {v1 v2 v3 v4 : Int32} {N : mm_M} : ∃ s1 s2 : Int32, (s1 = if v2 - v1 < 15 then v2 - v1 else 15) ∧ (s2 = if v3 = 0 then 0 else if v3 - 4 < 15 then v3 - 4 else 15) ∧ mf_264 v1 v2 v3 v4 N = mm_B (mf_245 (mm_shl s1 4 ||| s2) N) (fun _ M1 => mm_B (mf_263 (v2 - v1) M1) (fun _ M2 => mm_B (mf_264_L62 v2 v3 v4 (v3 - 4) v1 M2) (fun _ M3 => mf_264_j85 v3 v4 (v3 - 4) M3))) := by
  refine ⟨_, _, rfl, rfl, ?_⟩
  unfold mf_264 mf_264_j25 mf_264_j49
  by_cases c : v2 - v1 < 15
  · rw [if_pos c, if_pos c]
    by_cases d : v3 = 0
    · rw [if_pos d, if_pos d]
    · rw [if_neg d, if_neg d]
      by_cases e : v3 - 4 < 15
      · rw [if_pos e, if_pos e]
      · rw [if_neg e, if_neg e]
  · rw [if_neg c, if_neg c]
    by_cases d : v3 = 0
    · rw [if_pos d, if_pos d]
    · rw [if_neg d, if_neg d]
      by_cases e : v3 - 4 < 15
      · rw [if_pos e, if_pos e]
      · rw [if_neg e, if_neg e]
theorem mq_wpiece {M N : mm_M} {v1 v2 v3 v4 : Int32} (h : mq_P M N) (a0 : 0 ≤ v1.toInt) (a1 : v1.toInt ≤ v2.toInt) (a2 : v2.toInt ≤ (M.1 1 1).toInt) (b0 : 4 ≤ v3.toInt) (b1 : v3.toInt ≤ 10000) (hd : M.1 13 1 = v4) (hz : mq_z N ≤ 800000000) : mq_2 mq_F (mf_130 v1 v2 (v3 - 4) M) (mf_264 v1 v2 v3 v4 N) (fun a M2 b N2 => mq_po (12 * (v2.toInt + v3.toInt - v1.toInt)) M N a M2 b N2 ∧ 2 * ((N2.1 84 41).toInt - (N.1 84 41).toInt) ≤ 3 * (v2.toInt + v3.toInt - v1.toInt) ∧ (N.1 84 41).toInt ≤ (N2.1 84 41).toInt) := by
  have s10 := h.1.1.2.2.1
  have e4 : (v3 - 4).toInt = v3.toInt - 4 := by rw [mi_sub]; simp only [Int32.reduceToInt]; omega
  obtain ⟨s1, s2, hs1, hs2, e⟩ := mq_264 (v1 := v1) (v2 := v2) (v3 := v3) (v4 := v4) (N := N)
  rw [e]
  have n0 : ¬ v3 = 0 := fun q => by rw [q] at b0; simp only [Int32.reduceToInt] at b0; omega
  rw [if_neg n0] at hs2
  have em : mm_min (v3 - 4) 15 = s2 := by
    unfold mm_min
    rw [hs2]
    by_cases c : 15 < v3 - 4
    · rw [if_pos c, if_neg (by rw [Int32.lt_iff_toInt_lt] at c ⊢; omega)]
    · rw [if_neg c]
      by_cases d : v3 - 4 < 15
      · rw [if_pos d]
      · rw [if_neg d]
        rw [Int32.lt_iff_toInt_lt] at c d
        exact Int32.toInt_inj.mp (by omega)
  have s0 : 0 ≤ s2.toInt ∧ s2.toInt ≤ 15 := by
    rw [hs2]
    by_cases d : v3 - 4 < 15
    · rw [if_pos d]
      rw [Int32.lt_iff_toInt_lt] at d
      simp only [Int32.reduceToInt] at d
      omega
    · rw [if_neg d]; decide
  unfold mf_130
  rw [em]
  refine mq_wpart h a0 a1 a2 s0.1 s0.2 hz ?_ hs1
  rintro M2 N2 ⟨p2, z2, k1, k2⟩ m2
  unfold mf_264_j85
  rw [if_pos (by rw [Int32.lt_iff_toInt_lt]; simp only [Int32.reduceToInt]; omega), (k1 13 1 rfl).1, hd]
  have hx := mq_ext_b (n := v2.toInt - v1.toInt) (by omega)
  have hy := mq_ext_b (n := v3.toInt - 4) (by omega)
  refine mq_2_Bf (mq_wlowb p2 (by decide) (by decide) (by simp only [Int32.reduceToInt]; omega)) ?_
  rintro _ M3 _ N3 ⟨⟨p3, z3, k3, k4⟩, m3⟩
  simp only [Int32.reduceToInt] at z3 m3
  refine mq_2_Bf (mq_wmore p3 (by omega) (by omega) (by omega)) ?_
  rintro _ M4 _ N4 ⟨⟨p4, z4, k5, k6⟩, m4⟩
  rw [e4] at z4 m4
  exact mq_2_ret ⟨⟨p4, by omega, mq_kp_trans k1 (mq_kp_trans k3 k5), mq_kp_trans k2 (mq_kp_trans k4 k6)⟩, by omega, by omega⟩
theorem mq_P_kp {M N M2 N2 : mm_M} {w w2 : List (Nat × Option Nat)} (h : mq_P M N) (k1 : mq_kp w M M2) (k2 : mq_kp w2 N N2) (h1 : w.all (fun e => (decide (e.1 < 1) || decide (6 < e.1))) = true) (h2 : w2.all (fun e => decide (e.1 < 84) || decide (100 < e.1) || (e.1 == 84 && (match e.2 with | some j => !(j == 2) && !(j == 41) && !(j == 42) && !(j == 43) | none => false)) || (decide (86 < e.1) && decide (e.1 < 100))) = true) : mq_P M2 N2 := by
  have w1 : ∀ p i, 1 ≤ p → p ≤ 6 → mq_ws w p i = false := by
    intro p i p1 p2
    rw [Bool.eq_false_iff]
    intro q
    simp only [mq_ws, List.any_eq_true, Bool.and_eq_true, beq_iff_eq] at q
    obtain ⟨e, he, e1, _⟩ := q
    have := List.all_eq_true.mp h1 e he
    simp only [Bool.or_eq_true, decide_eq_true_eq] at this
    omega
  have w3 : ∀ i, (i = 2 ∨ i = 41 ∨ i = 42 ∨ i = 43) → mq_ws w2 84 i = false := by
    intro i hi
    rw [Bool.eq_false_iff]
    intro q
    simp only [mq_ws, List.any_eq_true, Bool.and_eq_true, beq_iff_eq] at q
    obtain ⟨⟨e, o⟩, he, e1, e2⟩ := q
    have := List.all_eq_true.mp h2 _ he
    simp only at e1 e2
    subst e1
    cases o with
    | none => simp at this
    | some j => simp at this e2; omega
  have w4 : ∀ p i, (p = 85 ∨ p = 100) → mq_ws w2 p i = false := by
    intro p i hp
    rw [Bool.eq_false_iff]
    intro q
    simp only [mq_ws, List.any_eq_true, Bool.and_eq_true, beq_iff_eq] at q
    obtain ⟨⟨e, o⟩, he, e1, e2⟩ := q
    have := List.all_eq_true.mp h2 _ he
    simp only at e1 e2
    subst e1
    simp only [Bool.or_eq_true, decide_eq_true_eq, Bool.and_eq_true, beq_iff_eq] at this
    omega
  obtain ⟨⟨⟨t1, t2, t3, t4⟩, b1, b2, b3⟩, g1, g2, g3, g4, g5, g6⟩ := h
  have e11 := (k1 1 1 (w1 1 1 (by decide) (by decide))).1
  have e842 := (k2 84 2 (w3 2 (by omega))).1
  have e41 := (k2 84 41 (w3 41 (by omega))).1
  have e51 := (k1 5 1 (w1 5 1 (by decide) (by decide))).1
  have e52 := (k1 5 2 (w1 5 2 (by decide) (by decide))).1
  have e54 := (k1 5 4 (w1 5 4 (by decide) (by decide))).1
  have e55 := (k1 5 5 (w1 5 5 (by decide) (by decide))).1
  have e42 := (k2 84 42 (w3 42 (by omega))).1
  have e43 := (k2 84 43 (w3 43 (by omega))).1
  refine ⟨⟨⟨by rw [e11, e842]; exact t1, by rw [e11]; exact t2, by rw [e11]; exact t3, fun j hj => ?_⟩, by rw [e41]; exact b1, by rw [e41, e51, e52]; exact b2, fun j hj => ?_⟩, by rw [e54, e42]; exact g1, by rw [e54]; exact g2, by rw [e54]; exact g3, by rw [e55, e43]; exact g4, by rw [e55]; exact g5, by rw [e55]; exact g6⟩
  · rw [e11] at hj
    rw [(k1 2 j (w1 2 j (by decide) (by decide))).1, (k2 85 j (w4 85 j (.inl rfl))).1]
    exact t4 j hj
  · rw [e51] at hj
    rw [(k1 6 j (w1 6 j (by decide) (by decide))).1, (k2 100 j (w4 100 j (.inr rfl))).1]
    exact b3 j hj
theorem mq_z_kp {N N2 : mm_M} {w2 : List (Nat × Option Nat)} (k2 : mq_kp w2 N N2) (h1 : mq_ws w2 84 41 = false) (h2 : mq_ws w2 84 43 = false) : mq_z N2 = mq_z N := by
  unfold mq_z
  rw [(k2 84 41 h1).1, (k2 84 43 h2).1]
/-- PIECES are written -/
theorem mq_ppieces {M N : mm_M} (h : mq_P M N) (hz : mq_z N ≤ 100000) : mq_2 mq_F (mf_129 M) (mf_265 N) (fun _ M2 _ N2 => mq_P M2 N2 ∧ 2 * ((N2.1 84 41).toInt - (N.1 84 41).toInt) ≤ 3 * (M.1 1 1).toInt + 4 ∧ mq_z N2 ≤ mq_z N + 12 * (M.1 1 1).toInt + 16 ∧ (N.1 84 41).toInt ≤ (N2.1 84 41).toInt) := by
  have s10 := h.1.1.2.2.1
  have s0 := h.1.1.2.1
  obtain ⟨sz, hsz⟩ : ∃ sz : Nat, (M.1 1 1).toInt = sz := ⟨(M.1 1 1).toInt.toNat, by omega⟩
  unfold mf_129 mf_265
  obtain ⟨_, M1, e1, hF, k0⟩ := mq_fstart hsz (by omega)
  rw [e1, mq_Bs]
  have hP1 : mq_P M1 N := mq_P_kp h k0 (mq_kp_refl (l := [])) rfl rfl
  have e11 : M1.1 1 1 = M.1 1 1 := (k0 1 1 rfl).1
  have e12 : (M.1 1 1 - 12).toInt = (M.1 1 1).toInt - 12 := by rw [mi_sub]; simp only [Int32.reduceToInt]; omega
  have e15 : (M.1 1 1 - 5).toInt = (M.1 1 1).toInt - 5 := by rw [mi_sub]; simp only [Int32.reduceToInt]; omega
  refine mq_2_Bf (P := fun a M2 b N2 => a = b ∧ 0 ≤ a.toInt ∧ a.toInt ≤ (M.1 1 1).toInt ∧ mq_P M2 N2 ∧ M2.1 1 1 = M.1 1 1 ∧ mq_z N2 ≤ mq_z N + 12 * a.toInt ∧ 2 * ((N2.1 84 41).toInt - (N.1 84 41).toInt) ≤ 3 * a.toInt ∧ (N.1 84 41).toInt ≤ (N2.1 84 41).toInt) ?_ ?_
  · unfold mf_129_L19 mf_265_L4
    refine mq_2_Lf (I := fun (a : Int32 × Int32) M2 (b : Int32 × Int32) N2 => a = b ∧ 0 ≤ a.1.toInt ∧ a.1.toInt ≤ a.2.toInt ∧ a.2.toInt ≤ (M.1 1 1).toInt ∧ mq_P M2 N2 ∧ M2.1 1 1 = M.1 1 1 ∧ mq_z N2 ≤ mq_z N + 12 * a.1.toInt ∧ 2 * ((N2.1 84 41).toInt - (N.1 84 41).toInt) ≤ 3 * a.1.toInt ∧ (N.1 84 41).toInt ≤ (N2.1 84 41).toInt ∧ ∃ F : Nat, (F : Int) ≤ a.2.toInt ∧ mq_FI (M.1 2) sz F M2) (m := fun a _ => ((M.1 1 1).toInt - a.2.toInt).toNat) ?_ ⟨rfl, by decide, by decide, s0, hP1, e11, by simp only [Int32.reduceToInt]; omega, by simp only [Int32.reduceToInt]; omega, Int.le_refl _, 0, by decide, hF⟩
    rintro ⟨fr, at_⟩ M2 b N2 ⟨rfl, f0, f1, a1, hP, es, z2, m2, ml, F, hFa, hF2⟩
    dsimp only at f0 f1 a1 z2 m2 hFa ⊢
    unfold mf_129_b19 mf_265_b4
    have eN : N2.1 84 2 = M.1 1 1 := by rw [← hP.1.1.1]; exact es
    rw [eN]
    by_cases c : M.1 1 1 - 12 < at_
    · rw [if_pos c, if_pos c]
      exact mq_2_ret (.inr ⟨_, _, rfl, rfl, rfl, f0, by omega, hP, es, z2, m2, ml⟩)
    rw [if_neg c, if_neg c]
    rw [Int32.lt_iff_toInt_lt] at c
    have e16 : (M.1 1 1 - 5 - at_).toInt = (M.1 1 1).toInt - 5 - at_.toInt := by rw [mi_sub, e15]; omega
    obtain ⟨p, hp⟩ : ∃ p : Nat, at_.toInt = p := ⟨at_.toInt.toNat, by omega⟩
    obtain ⟨lim, hlim⟩ : ∃ lim : Nat, (lim : Int) = (M.1 1 1).toInt - 5 - at_.toInt := ⟨((M.1 1 1).toInt - 5 - at_.toInt).toNat, by omega⟩
    refine mq_2_Bf (mq_fl (lim := lim) (p := p) hP.1.1 hF2 (by rw [es]; exact hsz) (by omega) hp (by omega) (by omega) (by rw [if_neg (by omega)]; omega) (by omega) (by omega) (by decide) (by rw [if_pos (by simp only [Int32.reduceToInt]; omega)]; omega) (by decide)) ?_
    rintro _ M3 _ N3 ⟨⟨G, hG, hF3⟩, k1, k2, hb⟩
    have hP3 : mq_P M3 N3 := mq_P_kp hP k1 k2 rfl rfl
    have es3 : M3.1 1 1 = M.1 1 1 := by rw [(k1 1 1 rfl).1]; exact es
    have z3 : mq_z N3 = mq_z N2 := mq_z_kp k2 rfl rfl
    have m3 : (N3.1 84 41).toInt = (N2.1 84 41).toInt := by rw [(k2 84 41 rfl).1]
    have ea : (at_ + 1).toInt = at_.toInt + 1 := by rw [mi_add]; simp only [Int32.reduceToInt]; omega
    by_cases d : N3.1 84 44 < 4
    · have d' : M3.1 13 0 < 4 := by
        rcases hb with ⟨_, q, _⟩ | ⟨_, q⟩
        · rw [q]; exact d
        · rw [q]; decide
      rw [if_pos d, if_pos d']
      exact mq_2_ret (.inl ⟨_, _, rfl, rfl, ⟨rfl, f0, by dsimp only; omega, by dsimp only; omega, hP3, es3, by dsimp only; omega, by dsimp only; omega, by omega, G, by dsimp only; omega, hF3⟩, by dsimp only; omega⟩)
    · rw [if_neg d]
      rw [Int32.lt_iff_toInt_lt] at d
      simp only [Int32.reduceToInt] at d
      obtain ⟨_, q1, q2, q3, q4, q5⟩ := hb.resolve_right (fun q => by omega)
      rw [q1, q2, if_neg (by rw [Int32.lt_iff_toInt_lt]; simp only [Int32.reduceToInt]; omega), if_neg (by rw [Int32.lt_iff_toInt_lt]; simp only [Int32.reduceToInt]; omega)]
      refine mq_2_Bf (mq_2_Kf (mq_wpiece (v3 := N3.1 84 44) (v4 := N3.1 84 45) hP3 f0 f1 (by rw [es3]; exact a1) (by omega) (by omega) q2 (by omega)) mk_130 mk_264) ?_
      rintro _ M4 _ N4 ⟨⟨⟨p4, z4, _, _⟩, m4, ml4⟩, k3, k4⟩
      have es4 : M4.1 1 1 = M.1 1 1 := by rw [(k3 1 1 rfl).1]; exact es3
      have b1 : M4.1 13 0 = N3.1 84 44 := by rw [(k3 13 0 rfl).1]; exact q1
      have b2 : N4.1 84 44 = N3.1 84 44 := (k4 84 44 rfl).1
      rw [b1, b2]
      have eb : (at_ + N3.1 84 44).toInt = at_.toInt + (N3.1 84 44).toInt := by rw [mi_add]; omega
      exact mq_2_ret (.inl ⟨_, _, rfl, rfl, ⟨rfl, by dsimp only; omega, by dsimp only; omega, by dsimp only; omega, p4, es4, by dsimp only; omega, by dsimp only; omega, by omega, G, by dsimp only; omega, mq_FI_kp hF3 k3 rfl rfl (fun _ => rfl) (fun _ => rfl) (fun _ => rfl)⟩, by dsimp only; omega⟩)
  · rintro a M2 b N2 ⟨rfl, a0, a1, hP, es, z2, m2, ml⟩
    unfold mf_129_j99 mf_265_j71
    have eN : N2.1 84 2 = M.1 1 1 := by rw [← hP.1.1.1]; exact es
    rw [eN]
    obtain ⟨s1, s2, hs1, hs2, e⟩ := mq_264 (v1 := a) (v2 := M.1 1 1) (v3 := 0) (v4 := 0) (N := N2)
    rw [if_pos rfl] at hs2
    subst hs2
    rw [e]
    simp only [mq_Ba]
    refine mq_wpart (f := fun M1 => some (.inl (), M1)) (g := fun M3 => mm_B (mf_264_j85 0 0 (0 - 4) M3) (fun _ M1 => some (.inl (), M1))) hP a0 a1 (by rw [es]; omega) (by decide) (by decide) (by omega) ?_ hs1
    rintro M3 N3 ⟨p3, z3, k1, k2⟩ m3
    unfold mf_264_j85
    rw [if_neg (by decide), mq_Bs]
    have hx := mq_ext_b (n := (M.1 1 1).toInt - a.toInt) (by omega)
    exact mq_2_ret ⟨p3, by omega, by omega, by omega⟩
