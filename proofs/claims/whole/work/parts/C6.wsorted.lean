/-! WRITING: SORTED, the whole -/
/-- a memory made for the reference's side -/
noncomputable def mq_ns (M : mm_M) : mm_M := (fun p i => if p = 105 then M.1 8 i else if p = 102 then M.1 47 i else if p = 94 then M.1 46 i else 0, fun _ _ => 0, 0)
/-- the class's letters, once -/
theorem mq_letc {M : mm_M} {n q : Nat} {o f : Nat → Nat} (hn : (M.1 42 12).toInt = n) (n0 : 0 < n) (hn1 : n ≤ 12500) (ho : ∀ i, i < n → (M.1 8 i).toInt = o i) (hP : mt_P n o) (hf : ∀ i, i < n → (M.1 47 i).toInt = f i ∧ f i < 256) (hq : (M.1 42 9).toInt = q) (hrow : mt_row f n (M.1 46) q) (h15 : M.1 42 15 = 0) (h16 : M.1 42 16 = 0) :
    ∃ M2, mm_B (mf_150_L31 (0 : Int32) M) (fun r4 M3 => mf_150_j137 M3) = some (.inl (), M2) ∧ (∀ i, i < n → o i = 0 → (M2.1 42 10).toInt = i) ∧ mq_kp mq_ltM M M2 ∧
      ∀ (N : mm_M) (vn v2 : Int32), vn.toInt = n → v2 = M.1 42 9 + 2 → (∀ i, i < n → (N.1 105 i).toInt = o i) → (∀ i, i < n → M.1 47 i = N.1 102 i) → (∀ j, j < q → M.1 46 j = N.1 94 j) → N.1 84 52 = 0 → ∃ N2, (∀ (δ : Type) (g : mm_M → mm_O δ), mm_B (mf_280_L17 vn v2 ((0 : Int32), (0 : Int32)) N) (fun r2 M1 => mm_B (mf_279 r2 M1) (fun _ M1 => mm_B (mf_278 (v2 - (1 : Int32)) M1) (fun _ M2 => g M2))) = g N2) ∧ (∃ c, c ≤ 12600 ∧ mq_l9 M2 N2 c) ∧ mq_kp mq_ltN N N2 := by
  have hq1 := mt_row_b hrow
  have hcon : ∀ i, i < n → ∃ j, j < q ∧ M.1 46 j = M.1 47 i := fun i hi => by
    obtain ⟨j, j1, j2⟩ := mt_row_c hrow (fun k hk => (hf k hk).2) hi
    exact ⟨j, j1, Int32.toInt_inj.mp (by rw [j2, (hf i hi).1])⟩
  have key : ∀ (N : mm_M) (vn v2 : Int32), vn.toInt = n → v2 = M.1 42 9 + 2 → (∀ i, i < n → (N.1 105 i).toInt = o i) → (∀ i, i < n → M.1 47 i = N.1 102 i) → (∀ j, j < q → M.1 46 j = N.1 94 j) → N.1 84 52 = 0 → ∃ M2 N2, mm_B (mf_150_L31 (0 : Int32) M) (fun r4 M3 => mf_150_j137 M3) = some (.inl (), M2) ∧ (∀ i, i < n → o i = 0 → (M2.1 42 10).toInt = i) ∧ mq_kp mq_ltM M M2 ∧ (∀ (δ : Type) (g : mm_M → mm_O δ), mm_B (mf_280_L17 vn v2 ((0 : Int32), (0 : Int32)) N) (fun r2 M1 => mm_B (mf_279 r2 M1) (fun _ M1 => mm_B (mf_278 (v2 - (1 : Int32)) M1) (fun _ M2 => g M2))) = g N2) ∧ (∃ c, c ≤ 12600 ∧ mq_l9 M2 N2 c) ∧ mq_kp mq_ltN N N2 := by
    intro N vn v2 hv hv2 hoN ht hr2 h52
    obtain ⟨run, N1, y1, Q⟩ := mq_lets (M := M) (N := N) (n := n) (q := q) (o := o) (vn := vn) (v2 := v2) hn n0 hn1 hv (fun i hi => ⟨ho i hi, hoN i hi⟩) hP ht hq hq1 hr2 hcon h15 h16 h52
    rcases Q with ⟨_, M1, x1, ⟨c, r, c1, c2, c3, c4⟩, _, _, c5, k1, k2⟩ | ⟨_, _, z⟩
    · obtain ⟨_, N2, y2, Q2⟩ := mq_lrun c4 c2 c1 (by omega)
      rcases Q2 with ⟨_, M2, x2, _, ⟨c6, d1, d2, d3⟩, k3, k4⟩ | ⟨_, _, z⟩
      · obtain ⟨M3, N3, x3, y3, l3, k5, k6⟩ := mq_lpush (x := M.1 42 9 + 1) d3 (by omega)
        have e9 : M2.1 42 9 = M.1 42 9 := by rw [(k3 42 9 rfl).1]; exact (k1 42 9 rfl).1
        have e2 : v2 - 1 = M.1 42 9 + 1 := by
          rw [hv2]
          refine Int32.toInt_inj.mp ?_
          have a1 : (M.1 42 9 + 2).toInt = q + 2 := by rw [mi_add, hq]; simp only [Int32.reduceToInt]; omega
          rw [mi_sub, a1, mi_add, hq]
          simp only [Int32.reduceToInt]
          omega
        refine ⟨M3, N3, ?_, fun i hi oi => ?_, mq_kp_trans k1 (mq_kp_trans (mq_kp_sub k3 rfl) (mq_kp_sub k5 rfl)), fun δ g => ?_, ⟨c6 + 1, by omega, l3⟩, mq_kp_trans k2 (mq_kp_trans (mq_kp_sub k4 rfl) (mq_kp_sub k6 rfl))⟩
        · rw [x1, mq_Bs]
          unfold mf_150_j137
          rw [x2, mq_Bs, e9, x3, mq_Bs]
        · rw [(k5 42 10 rfl).1, (k3 42 10 rfl).1]
          exact c5 i hi oi
        · rw [y1, mq_Bs, y2, mq_Bs, e2, y3, mq_Bs]
      · exact z.elim
    · exact z.elim
  obtain ⟨M2, N2, a1, a2, a3, _⟩ := key (mq_ns M) (M.1 42 12) (M.1 42 9 + 2) hn rfl (fun i hi => ho i hi) (fun _ _ => rfl) (fun _ _ => rfl) rfl
  refine ⟨M2, a1, a2, a3, fun N vn v2 hv hv2 hoN ht hr2 h52 => ?_⟩
  obtain ⟨M3, N3, b1, b2, b3, b4, b5, b6⟩ := key N vn v2 hv hv2 hoN ht hr2 h52
  rw [a1] at b1
  cases b1
  exact ⟨N3, b4, b5, b6⟩
/-- what the class has made of the text -/
theorem mq_150 {M : mm_M} {n : Nat} {f : Nat → Nat} (hn : (M.1 42 12).toInt = n) (n0 : 0 < n) (hn1 : n ≤ 12500) (hf : ∀ i, i < n → (M.1 47 i).toInt = f i ∧ f i < 256) :
    ∃ M2 : mm_M, ∃ q : Nat, ∃ a46 : Nat → Int32, mf_150 M = some (.inl (), M2) ∧ (M2.1 42 9).toInt = q ∧ mt_row f n a46 q ∧ (∀ b, b < 256 → (M2.1 49 b).toInt = mt_E f n b) ∧ mq_kp mw_150 M M2 ∧
      ∀ (o : Nat → Nat), mt_S n (mt_T n (fun i => (f i : Int)) n) o → (∀ i, i < n → o i = 0 → (M2.1 42 10).toInt = i) ∧ ∀ (N : mm_M) (vn v2 : Int32), vn.toInt = n → v2 = M2.1 42 9 + 2 → (∀ i, i < n → (N.1 105 i).toInt = o i) → (∀ i, i < n → M.1 47 i = N.1 102 i) → (∀ j, j < q → a46 j = N.1 94 j) → N.1 84 52 = 0 → ∃ N2, (∀ (δ : Type) (g : mm_M → mm_O δ), mm_B (mf_280_L17 vn v2 ((0 : Int32), (0 : Int32)) N) (fun r2 M1 => mm_B (mf_279 r2 M1) (fun _ M1 => mm_B (mf_278 (v2 - (1 : Int32)) M1) (fun _ M2 => g M2))) = g N2) ∧ (∃ c, c ≤ 12600 ∧ mq_l9 M2 N2 c) ∧ mq_kp mq_ltN N N2 := by
  obtain ⟨_, M1, x1, ⟨o1, o2, o3⟩, k1⟩ := mq_1_K (mt_66 (M := M) (p := 47) (m := 16384) (v := M.1 42 12) (n := n) (f := f) n0 hn1 (by decide) (by decide) (by omega) (by decide) hn hf) mk_66
  obtain ⟨_, M2, x2, b1, ⟨q, b2, b3⟩, k2⟩ := mt_151 (M := M1) (n := n) (f := f) (by rw [(k1 42 12 rfl).1]; exact hn) hn1 (fun i hi => by rw [(k1 47 i rfl).1]; exact hf i hi)
  obtain ⟨M3, x3, c1, k3, c2⟩ := mq_letc (M := mm_pi (mm_pi M2 42 15 0) 42 16 0) (n := n) (q := q) (o := o1) (f := f) (by show (M2.1 42 12).toInt = n; rw [(k2 42 12 rfl).1, (k1 42 12 rfl).1]; exact hn) n0 hn1 (fun i hi => by show (M2.1 8 i).toInt = _; rw [(k2 8 i rfl).1]; exact o2 i hi) o3.1 (fun i hi => by show (M2.1 47 i).toInt = f i ∧ _; rw [(k2 47 i rfl).1, (k1 47 i rfl).1]; exact hf i hi) b2 b3 rfl rfl
  have e : mf_150 M = some (.inl (), M3) := by
    unfold mf_150
    rw [x1, mq_Bs, x2, mq_Bs]
    exact x3
  have e9 : M3.1 42 9 = M2.1 42 9 := (k3 42 9 rfl).1
  refine ⟨M3, q, M2.1 46, e, by rw [e9]; exact b2, b3, fun b hb => by rw [(k3 49 b rfl).1]; exact b1 b hb, mk_150 _ e, fun o hS => ?_⟩
  have eo := mt_S_u (fun a b => mt_T_as) o3 hS
  refine ⟨fun i hi oi => c1 i hi (by rw [eo i hi]; exact oi), fun N vn v2 hv hv2 hoN ht hr h52 => ?_⟩
  refine c2 N vn v2 hv (by rw [hv2, e9]; rfl) (fun i hi => by rw [eo i hi]; exact hoN i hi) (fun i hi => ?_) hr h52
  show M2.1 47 i = _
  rw [(k2 47 i rfl).1, (k1 47 i rfl).1]
  exact ht i hi
theorem mq_send {M N : mm_M} {x : Int32} {y : Int64} (h : mq_P M N) (f1 : M.1 5 3 = 1) (g1 : N.1 84 13 = 1) (hy : y = x.toInt64) (hz : mq_z N ≤ 900000000) : mq_2 mq_F (mf_147_j88 x M) (mm_B (mf_249 (25779555029136 : Int64) (48 : Int32) (1 : Int32) N) (fun _ M1 => mf_276_j156 y M1)) (fun _ M2 _ N2 => mq_P M2 N2) := by
  unfold mf_147_j88 mf_276_j156
  refine mq_2_Bf (mq_wbits h (by rw [f1, g1]) g1.symm (by decide) (by simp only [Int32.reduceToInt]; omega)) ?_
  rintro _ M2 _ N2 ⟨p2, z2, k1, k2⟩
  simp only [Int32.reduceToInt] at z2
  have g2 : N2.1 84 13 = 1 := by rw [(k2 84 13 rfl).1]; exact g1
  rw [hy]
  refine mq_2_Bf (mq_wbits p2 (by rw [(k1 5 3 rfl).1, f1, g2]) g2.symm (by decide) (by simp only [Int32.reduceToInt]; omega)) ?_
  rintro _ M3 _ N3 ⟨p3, z3, k3, k4⟩
  simp only [Int32.reduceToInt] at z3
  refine mq_2_Bf (mq_wrest p3 (by omega)) ?_
  rintro _ M4 _ N4 ⟨p4, _⟩
  exact mq_2_ret p4
