/-! TURNINGS: the class's numbers, and the whole -/
def mt_cn (r o : Nat → Nat) (n sp : Nat) : Nat → Nat
  | 0 => 0
  | k + 1 => mt_cn r o n sp k + (if r (o k) = r (o (k + 1)) ∧ r ((o k + sp) % n) = r ((o (k + 1) + sp) % n) then 0 else 1)
theorem mt_cn_le {r o : Nat → Nat} {n sp : Nat} : ∀ k, mt_cn r o n sp k ≤ k
  | 0 => Nat.le_refl _
  | k + 1 => by
    have := mt_cn_le (r := r) (o := o) (n := n) (sp := sp) k
    show mt_cn r o n sp k + (if r (o k) = r (o (k + 1)) ∧ r ((o k + sp) % n) = r ((o (k + 1) + sp) % n) then 0 else 1) ≤ k + 1
    split <;> omega
theorem mt_cn_m {r o : Nat → Nat} {n sp i : Nat} : ∀ {k}, i ≤ k → mt_cn r o n sp i ≤ mt_cn r o n sp k
  | 0, h => by rw [show i = 0 from by omega]; exact Nat.le_refl _
  | k + 1, h => by
    by_cases c : i = k + 1
    · rw [c]; exact Nat.le_refl _
    · have := mt_cn_m (r := r) (o := o) (n := n) (sp := sp) (i := i) (k := k) (by omega)
      show mt_cn r o n sp i ≤ mt_cn r o n sp k + (if r (o k) = r (o (k + 1)) ∧ r ((o k + sp) % n) = r ((o (k + 1) + sp) % n) then 0 else 1)
      omega
theorem mt_behind {x s z : Int32} {a sp n : Nat} (hx : x.toInt = a) (hs : s.toInt = sp) (hz : z.toInt = n) (ha : a < n) (hsp : sp ≤ n) (hn : n ≤ 12500) : (if x + s < z then x + s else x + s - z).toInt = (((a + sp) % n : Nat) : Int) := by
  have e1 : (x + s).toInt = ((a + sp : Nat) : Int) := by rw [mi_add]; omega
  by_cases c : x + s < z
  · rw [if_pos c]
    rw [Int32.lt_iff_toInt_lt] at c
    rw [e1, Nat.mod_eq_of_lt (by omega)]
  · rw [if_neg c]
    rw [Int32.lt_iff_toInt_lt] at c
    have e2 : (a + sp) % n = a + sp - n := by
      rw [Nat.mod_eq_sub_mod (by omega), Nat.mod_eq_of_lt (by omega)]
    rw [mi_sub, e1, hz, e2]
    omega
theorem mt_69 {M : mm_M} {x y s : Int32} {n a b sp : Nat} {r : Nat → Nat} (hn : (M.1 7 5).toInt = n) (hn1 : n ≤ 12500) (hx : x.toInt = a) (hy : y.toInt = b) (ha : a < n) (hb : b < n) (hs : s.toInt = sp) (hsp : sp ≤ n) (hr : ∀ i, i < n → (M.1 9 i).toInt = r i) : mf_69 x y s M = some (.inl (if r a = r b ∧ r ((a + sp) % n) = r ((b + sp) % n) then 0 else 1), M) := by
  have n0 : 0 < n := by omega
  have key : ∀ p q : Int32, p.toInt = (((a + sp) % n : Nat) : Int) → q.toInt = (((b + sp) % n : Nat) : Int) → mf_69_j50 x y p q M = some (.inl (if r a = r b ∧ r ((a + sp) % n) = r ((b + sp) % n) then 0 else 1), M) := by
    intro p q hp hq
    have l1 := Nat.mod_lt (a + sp) n0
    have l2 := Nat.mod_lt (b + sp) n0
    have na : x.toNatClampNeg = a := by rw [mq_cl]; omega
    have nb : y.toNatClampNeg = b := by rw [mq_cl]; omega
    have np : p.toNatClampNeg = (a + sp) % n := by rw [mq_cl]; omega
    have nq : q.toNatClampNeg = (b + sp) % n := by rw [mq_cl]; omega
    unfold mf_69_j50
    rw [if_pos (mq_inr (by omega) (by omega)), if_pos (mq_inr (by omega) (by omega)), na, nb]
    have ra := hr a ha
    have rb := hr b hb
    have rp := hr _ l1
    have rq := hr _ l2
    by_cases c : M.1 9 a = M.1 9 b
    · rw [if_pos c, if_pos (mq_inr (by omega) (by omega)), if_pos (mq_inr (by omega) (by omega)), np, nq]
      rw [c] at ra
      by_cases d : M.1 9 ((a + sp) % n) = M.1 9 ((b + sp) % n)
      · rw [d] at rp
        rw [if_pos d, if_pos ⟨by omega, by omega⟩]
      · rw [if_neg d, if_neg (fun z => d (Int32.toInt_inj.mp (by rw [rp, rq, z.2])))]
    · rw [if_neg c, if_neg (fun z => c (Int32.toInt_inj.mp (by rw [ra, rb, z.1])))]
  have h1 := mt_behind hx hs hn ha hsp hn1
  have h2 := mt_behind hy hs hn hb hsp hn1
  unfold mf_69 mf_69_j24
  by_cases c : x + s < M.1 7 5
  · rw [if_pos c]
    rw [if_pos c] at h1
    by_cases d : y + s < M.1 7 5
    · rw [if_pos d]; rw [if_pos d] at h2; exact key _ _ h1 h2
    · rw [if_neg d]; rw [if_neg d] at h2; exact key _ _ h1 h2
  · rw [if_neg c]
    rw [if_neg c] at h1
    by_cases d : y + s < M.1 7 5
    · rw [if_pos d]; rw [if_pos d] at h2; exact key _ _ h1 h2
    · rw [if_neg d]; rw [if_neg d] at h2; exact key _ _ h1 h2
theorem mt_68 {M : mm_M} {v : Int32} {n sp : Nat} {r o : Nat → Nat} (hn : (M.1 7 5).toInt = n) (n0 : 0 < n) (hn1 : n ≤ 12500) (hv : v.toInt = sp) (hsp : sp ≤ n) (hr : ∀ i, i < n → (M.1 9 i).toInt = r i) (ho : ∀ i, i < n → (M.1 8 i).toInt = o i) (hP : mt_P n o) : mq_1 (mf_68 v M) (fun _ M2 => (∀ k, k < n → (M2.1 9 (o k)).toInt = mt_cn r o n sp k) ∧ (M2.1 7 6).toInt = ((mt_cn r o n sp (n - 1) + 1 : Nat) : Int) ∧ mq_kp [(7, some 6), (9, none), (11, none)] M M2) := by
  unfold mf_68
  refine mq_1_B (P := fun _ M2 => (∀ k, k < n → (M2.1 11 (o k)).toInt = mt_cn r o n sp k) ∧ (M2.1 7 6).toInt = ((mt_cn r o n sp (n - 1) + 1 : Nat) : Int) ∧ mq_kp [(7, some 6), (11, none)] M M2) ?_ ?_
  · unfold mf_68_L7
    refine mq_1_L (I := fun (a : Int32) M2 => ∃ i : Nat, i ≤ n ∧ a.toInt = i ∧ (M2.1 7 6).toInt = (if i = 0 then (0 : Int) else ((mt_cn r o n sp (i - 1) + 1 : Nat) : Int)) ∧ (∀ k, k < i → (M2.1 11 (o k)).toInt = mt_cn r o n sp k) ∧ mq_kp [(7, some 6), (11, none)] M M2) (m := fun (a : Int32) _ => ((n : Int) - a.toInt).toNat) ?_ ⟨0, by omega, rfl, rfl, fun j h => absurd h (Nat.not_lt_zero _), mq_kp_pi mq_kp_refl rfl⟩
    rintro x M2 ⟨i, hi, hx, h6, h11, hkp⟩
    unfold mf_68_b7
    rw [(hkp 7 5 rfl).1]
    by_cases c : x < M.1 7 5
    · rw [if_pos c]
      rw [Int32.lt_iff_toInt_lt] at c
      have e1 : (x + 1).toInt = ((i + 1 : Nat) : Int) := by rw [mi_add]; simp only [Int32.reduceToInt]; omega
      have nx : x.toNatClampNeg = i := by rw [mq_cl]; omega
      have oi := ho i (by omega)
      have ol := hP.1 i (by omega)
      have no : (M.1 8 i).toNatClampNeg = o i := by rw [mq_cl]; omega
      have cl := mt_cn_le (r := r) (o := o) (n := n) (sp := sp) i
      -- the number is written
      have fin : ∀ M3 : mm_M, mq_kp [(7, some 6), (11, none)] M M3 → (M3.1 7 6).toInt = ((mt_cn r o n sp i + 1 : Nat) : Int) → (∀ k, k < i → (M3.1 11 (o k)).toInt = mt_cn r o n sp k) → mq_1 (mf_68_j51 v x M3) (fun t N => (∃ s2, t = .inl s2 ∧ (∃ i : Nat, i ≤ n ∧ s2.toInt = i ∧ (N.1 7 6).toInt = (if i = 0 then (0 : Int) else ((mt_cn r o n sp (i - 1) + 1 : Nat) : Int)) ∧ (∀ k, k < i → (N.1 11 (o k)).toInt = mt_cn r o n sp k) ∧ mq_kp [(7, some 6), (11, none)] M N) ∧ ((n : Int) - s2.toInt).toNat < ((n : Int) - x.toInt).toNat) ∨ (∃ u, t = .inr u ∧ (∀ k, k < n → (N.1 11 (o k)).toInt = mt_cn r o n sp k) ∧ (N.1 7 6).toInt = ((mt_cn r o n sp (n - 1) + 1 : Nat) : Int) ∧ mq_kp [(7, some 6), (11, none)] M N)) := by
        intro M3 k3 h6 h11
        unfold mf_68_j51
        rw [if_pos (mq_inr (by omega) (by omega)), nx, (k3 8 i rfl).1, if_pos (mq_inr (by omega) (by omega)), no]
        have e2 : (M3.1 7 6 - 1).toInt = mt_cn r o n sp i := by rw [mi_sub, h6]; simp only [Int32.reduceToInt]; omega
        refine mq_1_ret (.inl ⟨_, rfl, ⟨i + 1, by omega, e1, ?_, fun k hk => ?_, mq_kp_pi k3 rfl⟩, by omega⟩)
        · rw [if_neg (by omega), show i + 1 - 1 = i from rfl]
          exact h6
        · by_cases q : k = i
          · rw [q, mq_ps]; exact e2
          · rw [mq_pj (fun z => q (hP.2.1 k i (by omega) (by omega) z))]
            exact h11 k (by omega)
      have fin1 : (mt_cn r o n sp i : Int) = (M2.1 7 6).toInt → mq_1 (mf_68_j41 v x M2) (fun t N => (∃ s2, t = .inl s2 ∧ (∃ i : Nat, i ≤ n ∧ s2.toInt = i ∧ (N.1 7 6).toInt = (if i = 0 then (0 : Int) else ((mt_cn r o n sp (i - 1) + 1 : Nat) : Int)) ∧ (∀ k, k < i → (N.1 11 (o k)).toInt = mt_cn r o n sp k) ∧ mq_kp [(7, some 6), (11, none)] M N) ∧ ((n : Int) - s2.toInt).toNat < ((n : Int) - x.toInt).toNat) ∨ (∃ u, t = .inr u ∧ (∀ k, k < n → (N.1 11 (o k)).toInt = mt_cn r o n sp k) ∧ (N.1 7 6).toInt = ((mt_cn r o n sp (n - 1) + 1 : Nat) : Int) ∧ mq_kp [(7, some 6), (11, none)] M N)) := by
        intro e
        unfold mf_68_j41
        refine fin _ (mq_kp_pi hkp rfl) ?_ h11
        show (M2.1 7 6 + 1).toInt = _
        rw [mi_add, ← e]
        simp only [Int32.reduceToInt]
        omega
      by_cases z : x = 0
      · rw [if_pos z]
        have i0 : i = 0 := by rw [z] at hx; simp only [Int32.reduceToInt] at hx; omega
        subst i0
        rw [if_pos rfl] at h6
        exact fin1 (by rw [h6]; rfl)
      · rw [if_neg z]
        have i0 : i ≠ 0 := fun q => z (Int32.toInt_inj.mp (by rw [hx, q]; rfl))
        rw [if_neg i0] at h6
        have e3 : (x - 1).toInt = ((i - 1 : Nat) : Int) := by rw [mi_sub]; simp only [Int32.reduceToInt]; omega
        have n3 : (x - 1).toNatClampNeg = i - 1 := by rw [mq_cl]; omega
        rw [if_pos (mq_inr (by omega) (by omega)), if_pos (mq_inr (by omega) (by omega)), n3, nx, (hkp 8 (i - 1) rfl).1, (hkp 8 i rfl).1]
        rw [mt_69 (n := n) (a := o (i - 1)) (b := o i) (r := r) (by rw [(hkp 7 5 rfl).1]; exact hn) hn1 (ho (i - 1) (by omega)) oi (hP.1 (i - 1) (by omega)) ol hv hsp (fun j hj => by rw [(hkp 9 j rfl).1]; exact hr j hj), mq_Bs]
        have ec : mt_cn r o n sp i = mt_cn r o n sp (i - 1) + (if r (o (i - 1)) = r (o i) ∧ r ((o (i - 1) + sp) % n) = r ((o i + sp) % n) then 0 else 1) := by
          obtain ⟨k, rfl⟩ : ∃ k, i = k + 1 := ⟨i - 1, by omega⟩
          rfl
        by_cases w : r (o (i - 1)) = r (o i) ∧ r ((o (i - 1) + sp) % n) = r ((o i + sp) % n)
        · rw [if_pos w] at ec
          rw [if_pos w, if_pos rfl]
          exact fin M2 hkp (by rw [h6, ec]) h11
        · rw [if_neg w] at ec
          rw [if_neg w, if_neg (by decide)]
          exact fin1 (by rw [h6, ec])
    · rw [if_neg c]
      rw [Int32.lt_iff_toInt_lt] at c
      have : i = n := by omega
      subst this
      rw [if_neg (by omega)] at h6
      exact mq_1_ret (.inr ⟨_, rfl, h11, h6, hkp⟩)
  · rintro _ M2 ⟨h11, h6, hkp⟩
    unfold mf_68_j74
    have e5 : M2.1 7 5 = M.1 7 5 := (hkp 7 5 rfl).1
    have hok : mm_cpok 0 0 (M2.1 7 5) 12500 12500 = true := by
      unfold mm_cpok
      rw [e5]
      have d : ¬ M.1 7 5 < 0 := by rw [Int32.lt_iff_toInt_lt]; simp only [Int32.reduceToInt]; omega
      simp only [d, Bool.and_eq_true, decide_eq_true_eq, Bool.not_eq_true', decide_eq_false_iff_not, not_false_eq_true]
      rw [mq_cl, mq_cl]
      simp only [Int32.reduceToInt]
      refine ⟨⟨⟨⟨by decide, by decide⟩, trivial⟩, by omega⟩, by omega⟩
    rw [if_pos hok]
    refine mq_1_ret ⟨fun k hk => ?_, h6, mq_kp_cp (mq_kp_sub hkp rfl) rfl⟩
    have ol := hP.1 k hk
    rw [mq_cp2 (Nat.zero_le _) (by rw [mq_cl (M2.1 7 5), e5]; show o k < 0 + _; omega)]
    show (M2.1 11 (0 + (o k - 0))).toInt = _
    rw [Nat.zero_add, Nat.sub_zero]
    exact h11 k hk
