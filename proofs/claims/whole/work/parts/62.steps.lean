/-! FORM 9: the places sorted by their bytes -/
theorem mc_H_all {f : Nat → Nat} : ∀ n, (∀ s, s < n → 1 ≤ f s ∧ f s ≤ 256) → mc_H f n 257 = n
  | 0, _ => mc_H_0 257
  | n + 1, h => by
    rw [mc_H_n, mc_H_all n (fun s hs => h s (by omega))]
    have := h n (by omega)
    rw [if_pos (by omega)]
theorem mc_pos_sur {f : Nat → Nat} {n k : Nat} (hf : ∀ s, s < n → 1 ≤ f s ∧ f s ≤ 256) (hk : k < n) : ∃ s, s < n ∧ mc_pos f n s = k := by
  have h0 := mc_H_all n hf
  have key : ∀ l, k < mc_H f n l → ∃ s, s < n ∧ mc_pos f n s = k := by
    intro l
    induction l with
    | zero => intro h; simp [mc_H] at h
    | succ l ih =>
      intro h
      by_cases c : k < mc_H f n l
      · exact ih c
      · have e : mc_H f n (l + 1) = mc_H f n l + mc_cn f n l := rfl
        unfold mc_cn at e
        by_cases z : l = 0
        · rw [if_pos z] at e; omega
        · rw [if_neg z] at e
          obtain ⟨s, s1, s2, s3⟩ := mc_ct_ex (f := f) (l := l) (r := k - mc_H f n l) (n := n) (by omega)
          refine ⟨s, s1, ?_⟩
          unfold mc_pos
          rw [s2, s3]; omega
  exact key 257 (by omega)
theorem mc_pos_n {f : Nat → Nat} {n s : Nat} (hs : s < n) (h0 : f s ≠ 0) : mc_pos f n s < n := by
  have h1 := mc_pos_lt (f := f) hs h0
  have h2 := mc_H_us (f := f) (l := f s + 1) n
  omega
/-- the class's steps -/
theorem mq_steps {M : mm_M} {n : Nat} {f : Nat → Nat} (hn : (M.1 42 12).toInt = n) (hn2 : n ≤ 16384) (hf : ∀ s, s < n → (M.1 47 s).toInt + 1 = f s ∧ 1 ≤ f s ∧ f s ≤ 256) : mq_1 (mf_145 M) (fun _ M2 => (∀ s, s < n → (M2.1 48 (mc_pos f n s)).toInt = s) ∧ mq_kp [(48, none), (49, none)] M M2) := by
  unfold mf_145
  refine mq_1_B (mq_fill (by omega)) ?_
  rintro _ M1 ⟨hz, k1⟩
  -- counts
  refine mq_1_B (P := fun _ M2 => (∀ l, l ≤ 256 → (M2.1 49 l).toInt = mc_cn f n l) ∧ mq_kp [(49, none)] M M2) ?_ ?_
  · unfold mf_145_L10
    refine mq_1_L (I := fun (a : Int32) M2 => ∃ k : Nat, k ≤ n ∧ a.toInt = k ∧ (∀ l, l ≤ 256 → (M2.1 49 l).toInt = mc_cn f k l) ∧ mq_kp [(49, none)] M M2) (m := fun (a : Int32) _ => ((n : Int) - a.toInt).toNat) ?_ ⟨0, by omega, rfl, ?_, k1⟩
    · rintro x M2 ⟨k, hk, hx, hc, hkp⟩
      unfold mf_145_b10
      rw [(hkp 42 12 rfl).1]
      refine mq_1_ite (fun c => ?_) (fun c => ?_)
      · rw [Int32.lt_iff_toInt_lt, hn] at c
        have e1 : (x + 1).toInt = ((k + 1 : Nat) : Int) := by rw [mi_add]; simp only [Int32.reduceToInt]; omega
        have exn : x.toNatClampNeg = k := by rw [mq_cl]; omega
        obtain ⟨f1, f2, f3⟩ := hf k (by omega)
        rw [if_pos (mq_inr (by omega) (by omega)), exn, (hkp 47 k rfl).1]
        have eb : (M.1 47 k + 1).toInt = f k := by rw [mi_add]; simp only [Int32.reduceToInt]; omega
        have ebn : (M.1 47 k + 1).toNatClampNeg = f k := by rw [mq_cl]; omega
        have hin : mm_in (M.1 47 k + 1) 257 = true := mq_inr (by omega) (by omega)
        rw [if_pos hin, if_pos hin, ebn]
        refine mq_1_ret (.inl ⟨_, rfl, ⟨k + 1, by omega, e1, ?_, mq_kp_pi hkp rfl⟩, by omega⟩)
        intro l hl
        have hcb := mc_ct_le (f := f) (l := f k) k
        by_cases q : l = f k
        · rw [q, mq_ps, mi_add, hc (f k) f3]
          unfold mc_cn
          rw [if_neg (by omega), if_neg (by omega)]
          simp only [mc_ct, if_pos, Int32.reduceToInt]
          omega
        · rw [mq_pj q, hc l hl]
          unfold mc_cn
          by_cases z : l = 0
          · rw [if_pos z, if_pos z]
          · rw [if_neg z, if_neg z]
            simp only [mc_ct]
            rw [if_neg (fun e => q e.symm)]; rfl
      · rw [Int32.lt_iff_toInt_lt, hn] at c
        have : k = n := by omega
        subst this
        exact mq_1_ret (.inr ⟨_, rfl, hc, hkp⟩)
    · intro l hl
      rw [hz l (by omega)]
      unfold mc_cn
      split <;> rfl
  · rintro _ M2 ⟨hc, k2⟩
    -- sums
    refine mq_1_B (P := fun _ M3 => (∀ l, l ≤ 256 → (M3.1 49 l).toInt = mc_H f n (l + 1)) ∧ mq_kp [(49, none)] M M3) ?_ ?_
    · unfold mf_145_L43
      refine mq_1_L (I := fun (a : Int32) M3 => ∃ k : Nat, 1 ≤ k ∧ k ≤ 257 ∧ a.toInt = k ∧ (∀ l, l < k → (M3.1 49 l).toInt = mc_H f n (l + 1)) ∧ (∀ l, k ≤ l → l ≤ 256 → (M3.1 49 l).toInt = mc_cn f n l) ∧ mq_kp [(49, none)] M M3) (m := fun (a : Int32) _ => (257 - a.toInt).toNat) ?_ ⟨1, by omega, by omega, rfl, ?_, fun l h1 h2 => hc l h2, k2⟩
      · rintro x M3 ⟨k, k1, k3, hx, h1, h2, hkp⟩
        unfold mf_145_b43
        refine mq_1_ite (fun c => ?_) (fun c => ?_)
        · rw [Int32.lt_iff_toInt_lt] at c
          simp only [Int32.reduceToInt] at c
          have e1 : (x + 1).toInt = ((k + 1 : Nat) : Int) := by rw [mi_add]; simp only [Int32.reduceToInt]; omega
          have em : (x - 1).toInt = ((k - 1 : Nat) : Int) := by rw [mi_sub]; simp only [Int32.reduceToInt]; omega
          have exn : x.toNatClampNeg = k := by rw [mq_cl]; omega
          have emn : (x - 1).toNatClampNeg = k - 1 := by rw [mq_cl]; omega
          have hin : mm_in x 257 = true := mq_inr (by omega) (by omega)
          rw [if_pos hin, if_pos (mq_inr (by omega) (by omega)), if_pos hin, exn, emn]
          have hb := mc_H_us (f := f) (l := k + 1) n
          have eH : mc_H f n (k + 1) = mc_H f n k + mc_cn f n k := rfl
          refine mq_1_ret (.inl ⟨_, rfl, ⟨k + 1, by omega, by omega, e1, ?_, ?_, mq_kp_pi hkp rfl⟩, by omega⟩)
          · intro l hl
            by_cases q : l = k
            · rw [q, mq_ps, mi_add, h2 k (Nat.le_refl _) (by omega), h1 (k - 1) (by omega), show k - 1 + 1 = k from by omega, eH]
              omega
            · rw [mq_pj q]; exact h1 l (by omega)
          · intro l hl1 hl2
            rw [mq_pj (by omega)]; exact h2 l (by omega) hl2
        · rw [Int32.lt_iff_toInt_lt] at c
          simp only [Int32.reduceToInt] at c
          exact mq_1_ret (.inr ⟨_, rfl, fun l hl => h1 l (by omega), hkp⟩)
      · intro l hl
        rw [show l = 0 from by omega, hc 0 (by omega)]
        rfl
    · rintro _ M3 ⟨hH, k3⟩
      -- places
      refine mq_1_B (P := fun _ M4 => (∀ s, s < n → (M4.1 48 (mc_pos f n s)).toInt = s) ∧ mq_kp [(48, none), (49, none)] M M4) ?_ (fun _ _ q => mq_1_ret q)
      unfold mf_145_L77
      refine mq_1_L (I := fun (a : Int32) M4 => ∃ k : Nat, k ≤ n ∧ a.toInt = k ∧ (∀ l, 1 ≤ l → l ≤ 256 → (M4.1 49 (l - 1)).toInt = ((mc_H f n l + mc_ct f l k : Nat) : Int)) ∧ (∀ s, s < k → (M4.1 48 (mc_pos f n s)).toInt = s) ∧ mq_kp [(48, none), (49, none)] M M4) (m := fun (a : Int32) _ => ((n : Int) - a.toInt).toNat) ?_ ⟨0, by omega, rfl, ?_, fun s h => by omega, mq_kp_sub k3 rfl⟩
      · rintro x M4 ⟨k, hk, hx, hs, hp, hkp⟩
        unfold mf_145_b77
        rw [(hkp 42 12 rfl).1]
        refine mq_1_ite (fun c => ?_) (fun c => ?_)
        · rw [Int32.lt_iff_toInt_lt, hn] at c
          have e1 : (x + 1).toInt = ((k + 1 : Nat) : Int) := by rw [mi_add]; simp only [Int32.reduceToInt]; omega
          have exn : x.toNatClampNeg = k := by rw [mq_cl]; omega
          obtain ⟨f1, f2, f3⟩ := hf k (by omega)
          rw [if_pos (mq_inr (by omega) (by omega)), exn, (hkp 47 k rfl).1]
          have ebn : (M.1 47 k).toNatClampNeg = f k - 1 := by rw [mq_cl]; omega
          have hin : mm_in (M.1 47 k) 257 = true := mq_inr (by omega) (by omega)
          have hsk := hs (f k) f2 f3
          have hpe : mc_H f n (f k) + mc_ct f (f k) k = mc_pos f n k := rfl
          have hpn := mc_pos_n (f := f) (n := n) (s := k) (by omega) (by omega)
          rw [hpe] at hsk
          have epn : (M4.1 49 (f k - 1)).toNatClampNeg = mc_pos f n k := by rw [mq_cl]; omega
          rw [if_pos hin, ebn, if_pos (mq_inr (by omega) (by omega)), if_pos hin, if_pos hin, epn]
          refine mq_1_ret (.inl ⟨_, rfl, ⟨k + 1, by omega, e1, ?_, ?_, mq_kp_pi (mq_kp_pi hkp rfl) rfl⟩, by omega⟩)
          · intro l hl1 hl2
            simp only [mc_ct]
            by_cases q : l = f k
            · rw [q, mq_ps, if_pos rfl, mi_add, hsk]
              unfold mc_pos at hpn ⊢
              simp only [Int32.reduceToInt]; omega
            · rw [mq_pj (by omega), mq_pn (by decide), hs l hl1 hl2, if_neg (fun e => q e.symm)]; rfl
          · intro s hs1
            rw [mq_pn (show 48 ≠ 49 from by decide)]
            by_cases q : s = k
            · rw [q, mq_ps]; exact hx
            · rw [mq_pj (fun e => q (mc_pos_inj (by omega) (by omega) (by have := hf s (by omega); omega) (by omega) e))]
              exact hp s (by omega)
        · rw [Int32.lt_iff_toInt_lt, hn] at c
          have : k = n := by omega
          subst this
          exact mq_1_ret (.inr ⟨_, rfl, hp, hkp⟩)
      · intro l l1 l2
        rw [hH (l - 1) (by omega), show l - 1 + 1 = l from by omega]; rfl
/-- the reference's places -/
theorem mq_places {N : mm_M} {n : Nat} {f : Nat → Nat} {o : Int32} (w : N.1 84 7 = 0) (hn : (N.1 84 28).toInt = n) (hn2 : n ≤ 16384) (hf : ∀ s, s < n → (N.1 95 s).toInt + 1 = f s ∧ 1 ≤ f s ∧ f s ≤ 256) : mq_1 (mf_231_L4 o ((0 : Int32), (0 : Int32)) N) (fun _ N2 => (∀ s, s < n → (N2.1 96 (mc_pos f n s)).toInt = s) ∧ mq_kp [(96, none)] N N2) := by
  unfold mf_231_L4
  refine mq_1_L (I := fun (a : Int32 × Int32) N2 => ∃ b : Nat, b ≤ 256 ∧ a.2.toInt = b ∧ a.1.toInt = mc_H f n (b + 1) ∧ (∀ s, s < n → f s ≤ b → (N2.1 96 (mc_pos f n s)).toInt = s) ∧ mq_kp [(96, none)] N N2) (m := fun (a : Int32 × Int32) _ => (257 - a.2.toInt).toNat) ?_ ⟨0, by omega, rfl, rfl, fun s h1 h2 => by have := hf s h1; omega, mq_kp_refl⟩
  rintro ⟨c, x⟩ N2 ⟨b, hb, hx, hc, hp, hkp⟩
  dsimp only at hx hc
  unfold mf_231_b4
  dsimp only
  refine mq_1_ite (fun d => ?_) (fun d => ?_)
  · rw [Int32.lt_iff_toInt_lt] at d
    simp only [Int32.reduceToInt] at d
    rw [if_pos (show N2.1 84 7 = 0 from by rw [(hkp 84 7 rfl).1]; exact w)]
    have e1 : (x + 1).toInt = ((b + 1 : Nat) : Int) := by rw [mi_add]; simp only [Int32.reduceToInt]; omega
    refine mq_1_B (P := fun (r : Int32) N3 => r.toInt = mc_H f n (b + 1 + 1) ∧ (∀ s, s < n → f s ≤ b + 1 → (N3.1 96 (mc_pos f n s)).toInt = s) ∧ mq_kp [(96, none)] N N3) ?_ ?_
    · unfold mf_231_L21
      have eH : mc_H f n (b + 1 + 1) = mc_H f n (b + 1) + mc_ct f (b + 1) n := rfl
      have hHb := mc_H_us (f := f) (l := b + 1 + 1) n
      refine mq_1_L (I := fun (a : Int32 × Int32) N3 => ∃ k : Nat, k ≤ n ∧ a.2.toInt = k ∧ a.1.toInt = ((mc_H f n (b + 1) + mc_ct f (b + 1) k : Nat) : Int) ∧ (∀ s, s < n → f s ≤ b → (N3.1 96 (mc_pos f n s)).toInt = s) ∧ (∀ s, s < k → f s = b + 1 → (N3.1 96 (mc_pos f n s)).toInt = s) ∧ mq_kp [(96, none)] N N3) (m := fun (a : Int32 × Int32) _ => ((n : Int) - a.2.toInt).toNat) ?_ ⟨0, by omega, rfl, hc, hp, fun s h => by omega, hkp⟩
      rintro ⟨c, y⟩ N3 ⟨k, hk, hy, hc, hp, hp2, hkp⟩
      dsimp only at hy hc
      unfold mf_231_b21
      dsimp only
      rw [(hkp 84 28 rfl).1]
      refine mq_1_ite (fun g => ?_) (fun g => ?_)
      · rw [Int32.lt_iff_toInt_lt, hn] at g
        have e2 : (y + 1).toInt = ((k + 1 : Nat) : Int) := by rw [mi_add]; simp only [Int32.reduceToInt]; omega
        have eyn : y.toNatClampNeg = k := by rw [mq_cl]; omega
        obtain ⟨f1, f2, f3⟩ := hf k (by omega)
        rw [if_pos (mq_inr (by omega) (by omega)), eyn, (hkp 95 k rfl).1]
        refine mq_1_ite (fun q => ?_) (fun q => ?_)
        · have q2 := congrArg Int32.toInt q
          have fk : f k = b + 1 := by omega
          have hpn := mc_pos_n (f := f) (n := n) (s := k) (by omega) (by omega)
          have hpe : mc_H f n (f k) + mc_ct f (f k) k = mc_pos f n k := rfl
          rw [fk] at hpe
          rw [hpe] at hc
          have ecn : c.toNatClampNeg = mc_pos f n k := by rw [mq_cl]; omega
          rw [if_pos (mq_inr (by omega) (by omega)), ecn]
          have ec1 : (c + 1).toInt = ((mc_H f n (b + 1) + mc_ct f (b + 1) (k + 1) : Nat) : Int) := by
            simp only [mc_ct]; rw [if_pos fk, mi_add, hc]; simp only [Int32.reduceToInt]; omega
          refine mq_1_ret (.inl ⟨_, rfl, ⟨k + 1, by omega, e2, ec1, ?_, ?_, mq_kp_pi hkp rfl⟩, by dsimp only; omega⟩)
          · intro s h1 h2
            rw [mq_pj (fun e => by have := mc_pos_inj h1 (show k < n from by omega) (by have := hf s h1; omega) (by omega) e; subst this; omega)]
            exact hp s h1 h2
          · intro s h1 h2
            by_cases r : s = k
            · rw [r, mq_ps]; exact hy
            · rw [mq_pj (fun e => r (mc_pos_inj (by omega) (by omega) (by omega) (by omega) e))]
              exact hp2 s (by omega) h2
        · have fk : f k ≠ b + 1 := fun e => q (Int32.toInt_inj.mp (by omega))
          refine mq_1_ret (.inl ⟨_, rfl, ⟨k + 1, by omega, e2, ?_, hp, ?_, hkp⟩, by dsimp only; omega⟩)
          · dsimp only
            simp only [mc_ct]; rw [if_neg fk]; exact hc
          · intro s h1 h2
            by_cases r : s = k
            · subst r; exact absurd h2 fk
            · exact hp2 s (by omega) h2
      · rw [Int32.lt_iff_toInt_lt, hn] at g
        have : k = n := by omega
        subst this
        refine mq_1_ret (.inr ⟨_, rfl, by rw [hc, eH], ?_, hkp⟩)
        intro s h1 h2
        by_cases r : f s = b + 1
        · exact hp2 s h1 r
        · exact hp s h1 (by omega)
    · rintro r N3 ⟨h1, h2, h3⟩
      exact mq_1_ret (.inl ⟨_, rfl, ⟨b + 1, by omega, e1, h1, h2, h3⟩, by dsimp only; omega⟩)
  · rw [Int32.lt_iff_toInt_lt] at d
    simp only [Int32.reduceToInt] at d
    exact mq_1_ret (.inr ⟨_, rfl, fun s h => hp s h (by have := hf s h; omega), hkp⟩)
