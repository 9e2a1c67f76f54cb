/-! WRITING: the longest earlier bytes -/
def mq_mt (t : Nat → Int32) (a b lim l : Nat) : Prop := l ≤ lim ∧ (∀ i, i < l → t (a + i) = t (b + i)) ∧ (l < lim → t (a + l) ≠ t (b + l))
theorem mq_mt_u {t : Nat → Int32} {a b lim l l2 : Nat} (h : mq_mt t a b lim l) (g : mq_mt t a b lim l2) : l = l2 := by
  rcases Nat.lt_trichotomy l l2 with c | c | c
  · exact absurd (g.2.1 l c) (h.2.2 (Nat.lt_of_lt_of_le c g.1))
  · exact c
  · exact absurd (h.2.1 l2 c) (g.2.2 (Nat.lt_of_lt_of_le c h.1))
theorem mq_mt_ext {t u : Nat → Int32} {a b lim l n : Nat} (he : ∀ j, j < n → t j = u j) (hb : b + lim ≤ n) (hab : a ≤ b) (h : mq_mt t a b lim l) : mq_mt u a b lim l := by
  refine ⟨h.1, fun i hi => ?_, fun c => ?_⟩
  · have := h.1
    rw [← he _ (by omega), ← he _ (by omega)]
    exact h.2.1 i hi
  · rw [← he _ (by omega), ← he _ (by omega)]
    exact h.2.2 c
/-- the reference's best of the distances below k -/
def mq_BR (t : Nat → Int32) (p lim k b d : Nat) : Prop := b ≤ lim ∧ (∀ e l, 1 ≤ e → e < k → mq_mt t (p - e) p lim l → l ≤ b) ∧ (b = 0 ∨ 1 ≤ d ∧ d < k ∧ d ≤ p ∧ mq_mt t (p - d) p lim b ∧ ∀ e l, 1 ≤ e → e < d → mq_mt t (p - e) p lim l → l < b)
/-- the class's -/
def mq_BC (t : Nat → Int32) (p lim k b d : Nat) : Prop := b ≤ lim ∧ (∀ e l, 1 ≤ e → e < k → mq_mt t (p - e) p lim l → 3 ≤ l → l ≤ b) ∧ (b = 0 ∨ 3 ≤ b ∧ 1 ≤ d ∧ d < k ∧ d ≤ p ∧ mq_mt t (p - d) p lim b ∧ ∀ e l, 1 ≤ e → e < d → mq_mt t (p - e) p lim l → l < b)
theorem mq_BCR {t : Nat → Int32} {p lim b d b2 d2 : Nat} (h : mq_BC t p lim (p + 1) b d) (g : mq_BR t p lim (p + 1) b2 d2) : (3 ≤ b2 → b = b2 ∧ d = d2 ∧ 1 ≤ d ∧ d ≤ p) ∧ (b2 < 3 → b = 0) := by
  obtain ⟨h1, h2, h3⟩ := h
  obtain ⟨g1, g2, g3⟩ := g
  constructor
  · intro c
    obtain ⟨g4, g5, g6, g7, g8⟩ := g3.resolve_left (by omega)
    have b1 := h2 d2 b2 g4 g5 g7 c
    obtain ⟨h4, h5, h6, h7, h8, h9⟩ := h3.resolve_left (by omega)
    have b3 := g2 d b h5 h6 h8
    have eb : b = b2 := by omega
    subst eb
    refine ⟨rfl, ?_, h5, h7⟩
    rcases Nat.lt_trichotomy d d2 with c | c | c
    · have := g8 d b h5 c h8; omega
    · exact c
    · have := h9 d2 b g4 c g7; omega
  · intro c
    rcases h3 with h3 | ⟨h4, h5, h6, h7, h8, h9⟩
    · exact h3
    · have := g2 d b h5 h6 h8
      omega
theorem mq_L55 {N : mm_M} {v1 v3 v5 v6 : Int32} {p lim e : Nat} (hp : v1.toInt = p) (hl : v5.toInt = lim) (he : v6.toInt = e) (h1 : p + lim ≤ 10000) (e1 : e ≤ p) : mq_1 (mf_250_L55 v1 v3 v5 v6 0 N) (fun r N2 => N2 = N ∧ ∃ l, r.toInt = ((l : Nat) : Int) ∧ mq_mt (N.1 85) (p - e) p lim l) := by
  unfold mf_250_L55
  refine mq_1_L (I := fun (a : Int32) N2 => N2 = N ∧ ∃ l : Nat, a.toInt = l ∧ l ≤ lim ∧ ∀ i, i < l → N.1 85 (p - e + i) = N.1 85 (p + i)) (m := fun (a : Int32) _ => ((lim : Int) - a.toInt).toNat) ?_ ⟨rfl, 0, rfl, Nat.zero_le _, fun i h => absurd h (Nat.not_lt_zero _)⟩
  rintro a N2 ⟨rfl, l, ha, l1, hv⟩
  unfold mf_250_b55
  by_cases c : a < v5
  · rw [if_pos c]
    rw [Int32.lt_iff_toInt_lt] at c
    have a1 : (v1 + a).toInt = ((p + l : Nat) : Int) := by rw [mi_add]; omega
    have a2 : (v1 + a - v6).toInt = ((p - e + l : Nat) : Int) := by rw [mi_sub, a1]; omega
    have n1 : (v1 + a).toNatClampNeg = p + l := by rw [mq_cl]; omega
    have n2 : (v1 + a - v6).toNatClampNeg = p - e + l := by rw [mq_cl]; omega
    rw [if_pos (mq_inr (by omega) (by omega)), if_pos (mq_inr (by omega) (by omega)), n1, n2]
    by_cases q : N2.1 85 (p + l) = N2.1 85 (p - e + l)
    · rw [if_pos q]
      have a3 : (a + 1).toInt = ((l + 1 : Nat) : Int) := by rw [mi_add]; simp only [Int32.reduceToInt]; omega
      refine mq_1_ret (.inl ⟨_, rfl, ⟨rfl, l + 1, a3, by omega, fun i hi => ?_⟩, by omega⟩)
      by_cases r : i = l
      · rw [r, q]
      · exact hv i (by omega)
    · rw [if_neg q]
      exact mq_1_ret (.inr ⟨_, rfl, rfl, l, ha, l1, hv, fun _ z => q z.symm⟩)
  · rw [if_neg c]
    rw [Int32.lt_iff_toInt_lt] at c
    exact mq_1_ret (.inr ⟨_, rfl, rfl, l, ha, l1, hv, fun z => by omega⟩)
theorem mq_L31 {N : mm_M} {v1 v3 v5 : Int32} {p lim : Nat} (hp : v1.toInt = p) (hl : v5.toInt = lim) (h1 : p + lim ≤ 10000) (hf : 10000 < v3.toInt) (b0 : N.1 84 44 = 0) (d0 : N.1 84 45 = 0) : mq_1 (mf_250_L31 v1 v3 v5 1 N) (fun _ N2 => (∃ b d : Nat, (N2.1 84 44).toInt = b ∧ (N2.1 84 45).toInt = d ∧ mq_BR (N.1 85) p lim (p + 1) b d) ∧ mq_kp mw_250 N N2) := by
  unfold mf_250_L31
  refine mq_1_L (I := fun (a : Int32) N2 => ∃ k b d : Nat, a.toInt = k ∧ 1 ≤ k ∧ k ≤ p + 1 ∧ (N2.1 84 44).toInt = b ∧ (N2.1 84 45).toInt = d ∧ mq_BR (N.1 85) p lim k b d ∧ mq_kp mw_250 N N2) (m := fun (a : Int32) _ => ((p : Int) + 1 - a.toInt).toNat) ?_ ⟨1, 0, 0, rfl, Nat.le_refl _, by omega, by rw [b0]; rfl, by rw [d0]; rfl, ⟨by omega, fun e l h1 h2 => by omega, .inl rfl⟩, mq_kp_refl⟩
  rintro a N2 ⟨k, b, d, ha, k1, k2, hb, hd, hB, hk⟩
  unfold mf_250_b31
  rw [if_neg (by rw [Int32.lt_iff_toInt_lt]; omega)]
  by_cases c : v1 < a
  · rw [if_pos c]
    rw [Int32.lt_iff_toInt_lt] at c
    have : k = p + 1 := by omega
    subst this
    exact mq_1_ret (.inr ⟨_, rfl, ⟨b, d, hb, hd, hB⟩, hk⟩)
  rw [if_neg c]
  rw [Int32.lt_iff_toInt_lt] at c
  by_cases c2 : N2.1 84 44 < v5
  · rw [if_pos c2]
    have e85 : N2.1 85 = N.1 85 := funext fun j => (hk 85 j rfl).1
    refine mq_1_B (mq_L55 (N := N2) (v3 := v3) hp hl ha h1 (by omega)) ?_
    rintro r N2 ⟨rfl, l, hr, hm⟩
    rw [e85] at hm
    unfold mf_250_j92
    have a3 : (a + 1).toInt = ((k + 1 : Nat) : Int) := by rw [mi_add]; simp only [Int32.reduceToInt]; omega
    obtain ⟨B1, B2, B3⟩ := hB
    by_cases c3 : N2.1 84 44 < r
    · rw [if_pos c3]
      rw [Int32.lt_iff_toInt_lt] at c3
      refine mq_1_ret (.inl ⟨_, rfl, ⟨k + 1, l, k, a3, by omega, by omega, hr, ha, ⟨hm.1, fun e l2 h1 h2 hm2 => ?_, .inr ⟨k1, by omega, by omega, hm, fun e l2 h1 h2 hm2 => ?_⟩⟩, mq_kp_pi (mq_kp_pi hk rfl) rfl⟩, by omega⟩)
      · by_cases q : e = k
        · subst q
          rw [mq_mt_u hm hm2]
          exact Nat.le_refl _
        · have := B2 e l2 h1 (by omega) hm2
          omega
      · have := B2 e l2 h1 h2 hm2
        omega
    · rw [if_neg c3]
      rw [Int32.lt_iff_toInt_lt] at c3
      refine mq_1_ret (.inl ⟨_, rfl, ⟨k + 1, b, d, a3, by omega, by omega, hb, hd, ⟨B1, fun e l2 h1 h2 hm2 => ?_, ?_⟩, hk⟩, by omega⟩)
      · by_cases q : e = k
        · subst q
          rw [← mq_mt_u hm hm2]
          omega
        · exact B2 e l2 h1 (by omega) hm2
      · rcases B3 with B3 | ⟨x1, x2, x3⟩
        · exact .inl B3
        · exact .inr ⟨x1, by omega, x3⟩
  · rw [if_neg c2]
    rw [Int32.lt_iff_toInt_lt] at c2
    obtain ⟨B1, B2, B3⟩ := hB
    refine mq_1_ret (.inr ⟨_, rfl, ⟨b, d, hb, hd, B1, fun e l2 h1 h2 hm2 => ?_, ?_⟩, hk⟩)
    · have := hm2.1
      omega
    · rcases B3 with B3 | ⟨x1, x2, x3⟩
      · exact .inl B3
      · exact .inr ⟨x1, by omega, x3⟩
theorem mq_look {N : mm_M} {v1 v2 v3 v4 : Int32} {p lim : Nat} (hp : v1.toInt = p) (h4 : v4.toInt ≤ 10000) (h5 : (p : Int) ≤ v4.toInt) (h2 : 0 ≤ v2.toInt) (hl : (lim : Int) = if v4.toInt - p < v2.toInt then v4.toInt - p else v2.toInt) (h1 : p + lim ≤ 10000) (hf : 10000 < v3.toInt) : mq_1 (mf_250 v1 v2 v3 v4 N) (fun _ N2 => (∃ b d : Nat, (N2.1 84 44).toInt = b ∧ (N2.1 84 45).toInt = d ∧ mq_BR (N.1 85) p lim (p + 1) b d) ∧ mq_kp mw_250 N N2) := by
  have e : (v4 - v1).toInt = v4.toInt - p := by rw [mi_sub]; omega
  unfold mf_250
  have st : ∀ v5 : Int32, v5.toInt = lim → mq_1 (mm_B (mf_250_L31 v1 v3 v5 (1 : Int32) (mm_pi (mm_pi N 84 44 (0 : Int32)) 84 45 (0 : Int32))) (fun r2 M1 => (some (.inl (), M1) : mm_O Unit))) (fun _ N2 => (∃ b d : Nat, (N2.1 84 44).toInt = b ∧ (N2.1 84 45).toInt = d ∧ mq_BR (N.1 85) p lim (p + 1) b d) ∧ mq_kp mw_250 N N2) := by
    intro v5 h5
    refine mq_1_B (mq_L31 hp h5 h1 hf rfl rfl) ?_
    rintro _ N2 ⟨hB, hk⟩
    exact mq_1_ret ⟨hB, mq_kp_trans (mq_kp_pi (mq_kp_pi mq_kp_refl rfl) rfl) hk⟩
  by_cases c : v4 - v1 < v2
  · rw [if_pos c]
    rw [Int32.lt_iff_toInt_lt] at c
    exact st _ (by rw [hl, if_pos (by omega)]; exact e)
  · rw [if_neg c]
    rw [Int32.lt_iff_toInt_lt] at c
    exact st _ (by rw [hl, if_neg (by omega)])
/-- the finder's rows -/
def mq_hs (t : Nat → Int32) (p : Nat) : Int32 := ((t p * 961 + t (p + 1) * 31) + t (p + 2)) &&& 4095
theorem mq_hs_in (t : Nat → Int32) (p : Nat) : 0 ≤ (mq_hs t p).toInt ∧ (mq_hs t p).toInt < 4096 := by
  have e : (mq_hs t p).toInt = ((t p * 961 + t (p + 1) * 31) + t (p + 2)).toInt % 4096 := mi_and _ 12 (by decide)
  omega
def mq_lt (t : Nat → Int32) (h : Int32) (E : Nat) (x : Int32) : Prop := (x.toInt = -1 ∧ ∀ q, q < E → mq_hs t q ≠ h) ∨ ∃ q : Nat, x.toInt = q ∧ q < E ∧ mq_hs t q = h ∧ ∀ r, q < r → r < E → mq_hs t r ≠ h
def mq_FI (t : Nat → Int32) (sz E : Nat) (M : mm_M) : Prop := (M.1 13 6).toInt = sz ∧ sz ≤ 10000 ∧ (∀ j, M.1 2 j = t j) ∧ (M.1 13 7).toInt = E ∧ E ≤ sz ∧ (∀ h : Int32, 0 ≤ h.toInt → h.toInt < 4096 → mq_lt t h E (M.1 14 h.toNatClampNeg)) ∧ ∀ q, q < E → mq_lt t (mq_hs t q) q (M.1 15 q)
theorem mq_73 {M : mm_M} {v : Int32} {t : Nat → Int32} {p : Nat} (hp : v.toInt = p) (h3 : p + 3 ≤ 10000) (ht : ∀ j, M.1 2 j = t j) : mf_73 v M = some (.inl (mq_hs t p), M) := by
  have e1 : (v + 1).toInt = ((p + 1 : Nat) : Int) := by rw [mi_add]; simp only [Int32.reduceToInt]; omega
  have e2 : (v + 2).toInt = ((p + 2 : Nat) : Int) := by rw [mi_add]; simp only [Int32.reduceToInt]; omega
  have n0 : v.toNatClampNeg = p := by rw [mq_cl]; omega
  have n1 : (v + 1).toNatClampNeg = p + 1 := by rw [mq_cl]; omega
  have n2 : (v + 2).toNatClampNeg = p + 2 := by rw [mq_cl]; omega
  unfold mf_73
  rw [if_pos (mq_inr (by omega) (by omega)), if_pos (mq_inr (by omega) (by omega)), if_pos (mq_inr (by omega) (by omega)), n0, n1, n2, ht, ht, ht]
  rfl
theorem mq_fstart {M : mm_M} {sz : Nat} (hs : (M.1 1 1).toInt = sz) (h : sz ≤ 10000) : mq_1 (mf_70 M) (fun _ M2 => mq_FI (M.1 2) sz 0 M2 ∧ mq_kp mw_70 M M2) := by
  refine mq_1_K (l := mw_70) (M0 := M) ?_ mk_70
  unfold mf_70
  refine mq_1_B (mq_fill (q := 14) (n := 4096) (v := -1) (by decide)) ?_
  rintro _ M2 ⟨hv, hk⟩
  refine mq_1_ret ⟨?_, h, fun j => (hk 2 j rfl).1, ?_, Nat.zero_le _, fun x x0 x1 => ?_, fun q hq => absurd hq (Nat.not_lt_zero _)⟩
  · rw [(hk 13 6 rfl).1]; exact hs
  · rw [(hk 13 7 rfl).1]; rfl
  · rw [hv _ (by rw [mq_cl]; omega)]
    exact .inl ⟨rfl, fun q hq => absurd hq (Nat.not_lt_zero _)⟩
theorem mq_enter {M : mm_M} {v : Int32} {t : Nat → Int32} {sz E p : Nat} (h : mq_FI t sz E M) (hp : v.toInt = p) (h3 : p + 3 ≤ sz) (hE : E ≤ p) : mq_1 (mf_72 v M) (fun _ M2 => mq_FI t sz p M2 ∧ mq_kp mw_72 M M2) := by
  refine mq_1_K (l := mw_72) (M0 := M) ?_ mk_72
  unfold mf_72
  refine mq_1_B (P := fun _ M2 => mq_FI t sz p M2) ?_ (fun _ _ q => mq_1_ret q)
  unfold mf_72_L0
  refine mq_1_L (I := fun _ M2 => ∃ E : Nat, E ≤ p ∧ mq_FI t sz E M2) (m := fun _ M2 => (v.toInt - (M2.1 13 7).toInt).toNat) ?_ ⟨E, hE, h⟩
  rintro _ M2 ⟨F, hF, f1, f2, f3, f4, f5, f6, f7⟩
  unfold mf_72_b0
  by_cases c : M2.1 13 7 < v
  · rw [if_pos c]
    rw [Int32.lt_iff_toInt_lt] at c
    have e3 : (M2.1 13 7 + 3).toInt = (F : Int) + 3 := by rw [mi_add]; simp only [Int32.reduceToInt]; omega
    rw [if_neg (by rw [Int32.lt_iff_toInt_lt]; omega), mq_73 (p := F) f4 (by omega) f3, mq_Bs]
    have hh := mq_hs_in t F
    have n7 : (M2.1 13 7).toNatClampNeg = F := by rw [mq_cl]; omega
    rw [if_pos (mq_inr hh.1 hh.2), if_pos (mq_inr (by omega) (by omega)), if_pos (mq_inr hh.1 hh.2), n7]
    have e1 : (M2.1 13 7 + 1).toInt = ((F + 1 : Nat) : Int) := by rw [mi_add]; simp only [Int32.reduceToInt]; omega
    refine mq_1_ret (.inl ⟨_, rfl, ⟨F + 1, by omega, f1, f2, f3, e1, by omega, fun x x0 x1 => ?_, fun q hq => ?_⟩, ?_⟩)
    · show mq_lt t x (F + 1) ((mm_pi (mm_pi M2 15 F (M2.1 14 (mq_hs t F).toNatClampNeg)) 14 (mq_hs t F).toNatClampNeg (M2.1 13 7)).1 14 x.toNatClampNeg)
      by_cases q : x = mq_hs t F
      · subst q
        rw [mq_ps]
        exact .inr ⟨F, f4, by omega, rfl, fun r r1 r2 => by omega⟩
      · have q2 : x.toNatClampNeg ≠ (mq_hs t F).toNatClampNeg := by
          intro z
          rw [mq_cl, mq_cl] at z
          exact q (Int32.toInt_inj.mp (by omega))
        rw [mq_pj q2]
        have g := f6 x x0 x1
        show mq_lt t x (F + 1) (M2.1 14 x.toNatClampNeg)
        rcases g with ⟨g1, g2⟩ | ⟨q1, g1, g2, g3, g4⟩
        · refine .inl ⟨g1, fun r hr => ?_⟩
          by_cases z : r = F
          · rw [z]; exact fun y => q y.symm
          · exact g2 r (by omega)
        · refine .inr ⟨q1, g1, by omega, g3, fun r r1 r2 => ?_⟩
          by_cases z : r = F
          · rw [z]; exact fun y => q y.symm
          · exact g4 r r1 (by omega)
    · show mq_lt t (mq_hs t q) q ((mm_pi M2 15 F (M2.1 14 (mq_hs t F).toNatClampNeg)).1 15 q)
      by_cases z : q = F
      · subst z
        rw [mq_ps]
        exact f6 _ hh.1 hh.2
      · rw [mq_pj z]
        exact f7 q (by omega)
    · show (v.toInt - (M2.1 13 7 + 1).toInt).toNat < (v.toInt - (M2.1 13 7).toInt).toNat
      omega
  · rw [if_neg c]
    rw [Int32.lt_iff_toInt_lt] at c
    have : F = p := by omega
    subst this
    exact mq_1_ret (.inr ⟨_, rfl, f1, f2, f3, f4, f5, f6, f7⟩)
theorem mq_alike {M : mm_M} {v1 v2 v3 : Int32} {t : Nat → Int32} {a p lim : Nat} (ha : v1.toInt = a) (hp : v2.toInt = p) (hl : v3.toInt = lim) (h1 : p + lim ≤ 10000) (hap : a ≤ p) (ht : ∀ j, M.1 2 j = t j) : mq_1 (mf_74 v1 v2 v3 M) (fun r M2 => M2 = M ∧ ∃ l : Nat, r.toInt = l ∧ mq_mt t a p lim l) := by
  unfold mf_74
  refine mq_1_B (P := fun (r : Int32) M2 => M2 = M ∧ ∃ l : Nat, r.toInt = l ∧ mq_mt t a p lim l) ?_ (fun _ _ q => mq_1_ret q)
  unfold mf_74_L3
  refine mq_1_L (I := fun (x : Int32) M2 => M2 = M ∧ ∃ l : Nat, x.toInt = l ∧ l ≤ lim ∧ ∀ i, i < l → t (a + i) = t (p + i)) (m := fun (x : Int32) _ => ((lim : Int) - x.toInt).toNat) ?_ ⟨rfl, 0, rfl, Nat.zero_le _, fun i h => absurd h (Nat.not_lt_zero _)⟩
  rintro x M2 ⟨rfl, l, hx, l1, hv⟩
  unfold mf_74_b3
  by_cases c : x < v3
  · rw [if_pos c]
    rw [Int32.lt_iff_toInt_lt] at c
    have a1 : (v1 + x).toInt = ((a + l : Nat) : Int) := by rw [mi_add]; omega
    have a2 : (v2 + x).toInt = ((p + l : Nat) : Int) := by rw [mi_add]; omega
    have n1 : (v1 + x).toNatClampNeg = a + l := by rw [mq_cl]; omega
    have n2 : (v2 + x).toNatClampNeg = p + l := by rw [mq_cl]; omega
    rw [if_pos (mq_inr (by omega) (by omega)), if_pos (mq_inr (by omega) (by omega)), n1, n2, ht, ht]
    by_cases q : t (a + l) = t (p + l)
    · rw [if_pos q]
      have a3 : (x + 1).toInt = ((l + 1 : Nat) : Int) := by rw [mi_add]; simp only [Int32.reduceToInt]; omega
      refine mq_1_ret (.inl ⟨_, rfl, ⟨rfl, l + 1, a3, by omega, fun i hi => ?_⟩, by omega⟩)
      by_cases r : i = l
      · rw [r, q]
      · exact hv i (by omega)
    · rw [if_neg q]
      exact mq_1_ret (.inr ⟨_, rfl, rfl, l, hx, l1, hv, fun _ => q⟩)
  · rw [if_neg c]
    rw [Int32.lt_iff_toInt_lt] at c
    exact mq_1_ret (.inr ⟨_, rfl, rfl, l, hx, l1, hv, fun z => by omega⟩)
/-- bytes alike by three have one head -/
theorem mq_hs_mt {t : Nat → Int32} {a p lim l : Nat} (h : mq_mt t a p lim l) (h3 : 3 ≤ l) : mq_hs t a = mq_hs t p := by
  unfold mq_hs
  have e0 := h.2.1 0 (by omega)
  have e1 := h.2.1 1 (by omega)
  have e2 := h.2.1 2 (by omega)
  rw [Nat.add_zero, Nat.add_zero] at e0
  rw [e0, e1, e2]
theorem mq_walk {M : mm_M} {v1 v3 x : Int32} {t : Nat → Int32} {sz p lim : Nat} (h : mq_FI t sz p M) (hp : v1.toInt = p) (hl : v3.toInt = lim) (h1 : p + lim ≤ sz) (hl0 : 3 ≤ lim) (b0 : M.1 13 0 = 0) (d0 : M.1 13 1 = 0) (hx : mq_lt t (mq_hs t p) p x) : mq_1 (mf_71_L47 v1 v3 (x, 0) M) (fun _ M2 => (∃ b d : Nat, (M2.1 13 0).toInt = b ∧ (M2.1 13 1).toInt = d ∧ mq_BC t p lim (p + 1) b d) ∧ mq_kp [(13, some 0), (13, some 1)] M M2) := by
  obtain ⟨f1, f2, f3, f4, f5, f6, f7⟩ := h
  unfold mf_71_L47
  refine mq_1_L (I := fun (s : Int32 × Int32) M2 => ∃ A k b d : Nat, s.2.toInt = k ∧ k + A ≤ p ∧ mq_lt t (mq_hs t p) A s.1 ∧ (M2.1 13 0).toInt = b ∧ (M2.1 13 1).toInt = d ∧ mq_BC t p lim (p - A + 1) b d ∧ mq_kp [(13, some 0), (13, some 1)] M M2) (m := fun (s : Int32 × Int32) _ => (s.1.toInt + 1).toNat) ?_ ⟨p, 0, 0, 0, rfl, by omega, hx, by rw [b0]; rfl, by rw [d0]; rfl, ⟨by omega, fun e l h1 h2 => by omega, .inl rfl⟩, mq_kp_refl⟩
  rintro ⟨at_, kk⟩ M2 ⟨A, k, b, d, hk, kA, hat, hb, hd, ⟨B1, B2, B3⟩, hkp⟩
  dsimp only at hk hat
  unfold mf_71_b47
  have e6 : (M2.1 13 6).toInt = sz := by rw [(hkp 13 6 rfl).1]; exact f1
  have ht : ∀ j, M2.1 2 j = t j := fun j => by rw [(hkp 2 j rfl).1]; exact f3 j
  dsimp only
  rw [if_pos (by rw [Int32.lt_iff_toInt_lt]; omega)]
  rcases hat with ⟨g1, g2⟩ | ⟨q, g1, g2, g3, g4⟩
  · rw [if_pos (by rw [Int32.lt_iff_toInt_lt]; simp only [Int32.reduceToInt]; omega)]
    refine mq_1_ret (.inr ⟨_, rfl, ⟨b, d, hb, hd, B1, fun e l e1 e2 hm l3 => ?_, ?_⟩, hkp⟩)
    · by_cases z : e < p - A + 1
      · exact B2 e l e1 z hm l3
      · exact absurd (mq_hs_mt hm l3) (g2 (p - e) (by omega))
    · rcases B3 with B3 | ⟨x0, x1, x2, x3⟩
      · exact .inl B3
      · exact .inr ⟨x0, x1, by omega, x3⟩
  · rw [if_neg (by rw [Int32.lt_iff_toInt_lt]; simp only [Int32.reduceToInt]; omega)]
    by_cases c : M2.1 13 0 < v3
    · rw [if_pos c]
      rw [Int32.lt_iff_toInt_lt] at c
      have a1 : (at_ + M2.1 13 0).toInt = ((q + b : Nat) : Int) := by rw [mi_add]; omega
      have a2 : (v1 + M2.1 13 0).toInt = ((p + b : Nat) : Int) := by rw [mi_add]; omega
      have n1 : (at_ + M2.1 13 0).toNatClampNeg = q + b := by rw [mq_cl]; omega
      have n2 : (v1 + M2.1 13 0).toNatClampNeg = p + b := by rw [mq_cl]; omega
      have nq : at_.toNatClampNeg = q := by rw [mq_cl]; omega
      have k1 : (kk + 1).toInt = ((k + 1 : Nat) : Int) := by rw [mi_add]; simp only [Int32.reduceToInt]; omega
      rw [if_pos (mq_inr (by omega) (by omega)), if_pos (mq_inr (by omega) (by omega)), n1, n2, ht, ht]
      -- what lies before: nothing alike by three between
      have mid : ∀ e l, 1 ≤ e → e < p - q → mq_mt t (p - e) p lim l → 3 ≤ l → l ≤ b := by
        intro e l e1 e2 hm l3
        by_cases z : e < p - A + 1
        · exact B2 e l e1 z hm l3
        · exact absurd (mq_hs_mt hm l3) (g4 (p - e) (by omega) (by omega))
      have nx : ∀ M3 : mm_M, mq_kp [(13, some 0), (13, some 1)] M M3 → mq_lt t (mq_hs t p) q (M3.1 15 q) := by
        intro M3 k3
        rw [(k3 15 q rfl).1, ← g3]
        exact f7 q (by omega)
      -- go on as it was
      have go : (∀ l, mq_mt t q p lim l → 3 ≤ l → l ≤ b) → mq_1 (mf_71_j134 v1 v3 at_ kk M2) (fun r N => (∃ s2, r = .inl s2 ∧ (∃ A k b d : Nat, s2.2.toInt = k ∧ k + A ≤ p ∧ mq_lt t (mq_hs t p) A s2.1 ∧ (N.1 13 0).toInt = b ∧ (N.1 13 1).toInt = d ∧ mq_BC t p lim (p - A + 1) b d ∧ mq_kp [(13, some 0), (13, some 1)] M N) ∧ (s2.1.toInt + 1).toNat < (at_.toInt + 1).toNat) ∨ (∃ x, r = .inr x ∧ (∃ b d : Nat, (N.1 13 0).toInt = b ∧ (N.1 13 1).toInt = d ∧ mq_BC t p lim (p + 1) b d) ∧ mq_kp [(13, some 0), (13, some 1)] M N)) := by
        intro hq
        unfold mf_71_j134
        rw [if_pos (mq_inr (by omega) (by omega)), nq]
        have hn := nx M2 hkp
        refine mq_1_ret (.inl ⟨_, rfl, ⟨q, k + 1, b, d, k1, by omega, hn, hb, hd, ⟨B1, fun e l e1 e2 hm l3 => ?_, ?_⟩, hkp⟩, ?_⟩)
        · by_cases z : e = p - q
          · subst z
            have : p - (p - q) = q := by omega
            rw [this] at hm
            exact hq l hm l3
          · exact mid e l e1 (by omega) hm l3
        · rcases B3 with B3 | ⟨x0, x1, x2, x3⟩
          · exact .inl B3
          · exact .inr ⟨x0, x1, by omega, x3⟩
        · dsimp only
          rcases hn with ⟨n1, _⟩ | ⟨q2, n1, n2, _⟩
          · omega
          · omega
      by_cases ce : t (q + b) = t (p + b)
      · rw [if_pos ce]
        refine mq_1_B (mq_alike (t := t) g1 hp hl (by omega) (by omega) ht) ?_
        rintro r M3 ⟨rfl, l, hr, hm⟩
        by_cases c3 : r < 3
        · rw [if_pos c3]
          rw [Int32.lt_iff_toInt_lt] at c3
          simp only [Int32.reduceToInt] at c3
          exact go (fun l2 hm2 l3 => by have := mq_mt_u hm hm2; omega)
        · rw [if_neg c3]
          rw [Int32.lt_iff_toInt_lt] at c3
          simp only [Int32.reduceToInt] at c3
          by_cases c4 : M3.1 13 0 < r
          · rw [if_pos c4]
            rw [Int32.lt_iff_toInt_lt] at c4
            unfold mf_71_j134
            rw [if_pos (mq_inr (by omega) (by omega)), nq]
            have kp2 : mq_kp [(13, some 0), (13, some 1)] M (mm_pi (mm_pi M3 13 0 r) 13 1 (v1 - at_)) := mq_kp_pi (mq_kp_pi hkp rfl) rfl
            have hn := nx _ kp2
            have e5 : (v1 - at_).toInt = ((p - q : Nat) : Int) := by rw [mi_sub]; omega
            have e7 : p - (p - q) = q := by omega
            refine mq_1_ret (.inl ⟨_, rfl, ⟨q, k + 1, l, p - q, k1, by omega, hn, hr, e5, ⟨hm.1, fun e l2 e1 e2 hm2 l3 => ?_, .inr ⟨by omega, by omega, by omega, by omega, by rw [e7]; exact hm, fun e l2 e1 e2 hm2 => ?_⟩⟩, kp2⟩, ?_⟩)
            · by_cases z : e = p - q
              · subst z
                rw [e7] at hm2
                rw [mq_mt_u hm hm2]
                exact Nat.le_refl _
              · have := mid e l2 e1 (by omega) hm2 l3
                omega
            · by_cases l3 : 3 ≤ l2
              · have := mid e l2 e1 e2 hm2 l3
                omega
              · omega
            · dsimp only
              rcases hn with ⟨n1, _⟩ | ⟨q2, n1, n2, _⟩
              · omega
              · omega
          · rw [if_neg c4]
            rw [Int32.lt_iff_toInt_lt] at c4
            exact go (fun l2 hm2 l3 => by have := mq_mt_u hm hm2; omega)
      · rw [if_neg ce]
        refine go (fun l hm l3 => ?_)
        by_cases z : b < l
        · exact absurd (hm.2.1 b z) ce
        · omega
    · rw [if_neg c]
      rw [Int32.lt_iff_toInt_lt] at c
      refine mq_1_ret (.inr ⟨_, rfl, ⟨b, d, hb, hd, B1, fun e l e1 e2 hm l3 => ?_, ?_⟩, hkp⟩)
      · have := hm.1
        omega
      · rcases B3 with B3 | ⟨x0, x1, x2, x3⟩
        · exact .inl B3
        · exact .inr ⟨x0, x1, by omega, x3⟩
theorem mq_FI_kp {t : Nat → Int32} {sz E : Nat} {M M2 : mm_M} {w : List (Nat × Option Nat)} (h : mq_FI t sz E M) (k : mq_kp w M M2) (h6 : mq_ws w 13 6 = false) (h7 : mq_ws w 13 7 = false) (h2 : ∀ j, mq_ws w 2 j = false) (h14 : ∀ j, mq_ws w 14 j = false) (h15 : ∀ j, mq_ws w 15 j = false) : mq_FI t sz E M2 := by
  obtain ⟨f1, f2, f3, f4, f5, f6, f7⟩ := h
  refine ⟨by rw [(k 13 6 h6).1]; exact f1, f2, fun j => by rw [(k 2 j (h2 j)).1]; exact f3 j, by rw [(k 13 7 h7).1]; exact f4, f5, fun x x0 x1 => ?_, fun q hq => ?_⟩
  · rw [(k 14 _ (h14 _)).1]; exact f6 x x0 x1
  · rw [(k 15 _ (h15 _)).1]; exact f7 q hq
theorem mq_find {M : mm_M} {v1 v2 : Int32} {t : Nat → Int32} {sz E p lim : Nat} (h : mq_FI t sz E M) (hE : E ≤ p) (hp : v1.toInt = p) (hps : p ≤ sz) (h2 : 0 ≤ v2.toInt) (hl : (lim : Int) = if (sz : Int) - p < v2.toInt then (sz : Int) - p else v2.toInt) : mq_1 (mf_71 v1 v2 M) (fun _ M2 => (∃ b d : Nat, (M2.1 13 0).toInt = b ∧ (M2.1 13 1).toInt = d ∧ mq_BC t p lim (p + 1) b d) ∧ (∃ F, F ≤ p ∧ mq_FI t sz F M2) ∧ mq_kp mw_71 M M2) := by
  have f0 := h
  obtain ⟨f1, f2, f3, f4, f5, f6, f7⟩ := h
  have e1 : (M.1 13 6 - v1).toInt = (sz : Int) - p := by rw [mi_sub]; omega
  have el : (mm_min v2 (M.1 13 6 - v1)).toInt = lim := by
    unfold mm_min
    rw [hl]
    by_cases c : M.1 13 6 - v1 < v2
    · rw [if_pos c]
      rw [Int32.lt_iff_toInt_lt] at c
      rw [if_pos (by omega)]; exact e1
    · rw [if_neg c]
      rw [Int32.lt_iff_toInt_lt] at c
      rw [if_neg (by omega)]
  have hlim : p + lim ≤ sz := by
    by_cases c : (sz : Int) - p < v2.toInt
    · rw [if_pos c] at hl; omega
    · rw [if_neg c] at hl; omega
  unfold mf_71
  by_cases c : mm_min v2 (M.1 13 6 - v1) < 3
  · rw [if_pos c]
    rw [Int32.lt_iff_toInt_lt, el] at c
    simp only [Int32.reduceToInt] at c
    refine mq_1_ret ⟨⟨0, 0, rfl, rfl, by omega, fun e l e1 e2 hm l3 => ?_, .inl rfl⟩, ⟨E, hE, f0⟩, mq_kp_pi (mq_kp_pi mq_kp_refl rfl) rfl⟩
    have := hm.1
    omega
  · rw [if_neg c]
    rw [Int32.lt_iff_toInt_lt, el] at c
    simp only [Int32.reduceToInt] at c
    refine mq_1_B (mq_enter (M := mm_pi (mm_pi M 13 0 0) 13 1 0) (t := t) f0 hp (by omega) hE) ?_
    rintro _ M2 ⟨hF, k2⟩
    rw [mq_73 (p := p) hp (by omega) hF.2.2.1, mq_Bs]
    have hh := mq_hs_in t p
    rw [if_pos (mq_inr hh.1 hh.2)]
    refine mq_1_B (mq_walk hF hp el hlim (by omega) (by rw [(k2 13 0 rfl).1]; rfl) (by rw [(k2 13 1 rfl).1]; rfl) (hF.2.2.2.2.2.1 _ hh.1 hh.2)) ?_
    rintro _ M3 ⟨hB, k3⟩
    refine mq_1_ret ⟨hB, ⟨p, Nat.le_refl _, mq_FI_kp hF k3 rfl rfl (fun _ => rfl) (fun _ => rfl) (fun _ => rfl)⟩, ?_⟩
    exact mq_kp_trans (mq_kp_trans (mq_kp_pi (mq_kp_pi mq_kp_refl rfl) rfl) (mq_kp_sub k2 rfl)) (mq_kp_sub k3 rfl)
theorem mq_12 {α β : Type} {x : mm_O α} {y : mm_O β} {P : α → mm_M → Prop} {Q : β → mm_M → Prop} (h : mq_1 x P) (g : mq_1 y Q) : mq_2 mq_F x y (fun a M b N => P a M ∧ Q b N) := by
  obtain ⟨a, M, e, p⟩ := h
  obtain ⟨b, N, e2, q⟩ := g
  rw [e, e2]
  exact mq_2_ret ⟨p, q⟩
