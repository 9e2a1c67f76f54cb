/-! THE CALLS: least, the costs -/
theorem mq_lcx : ∀ l : Nat, ∃ y : Int, 3 ≤ l → l ≤ 258 → 0 ≤ y ∧ y ≤ 40 ∧ ∀ (L : Int32), L.toInt = l → ∀ M N : mm_M, ∃ s e r : Int32, mf_94 L M = some (.inl s, M) ∧ mf_95 L M = some (.inl e, M) ∧ mf_82 s M = some (.inl r, M) ∧ mf_254 L N = some (.inl s, N) ∧ mf_286 s N = some (.inl r, N) ∧ mf_258 s N = some (.inl e, N) ∧ (r + e).toInt = y := by
  intro l
  by_cases c : 3 ≤ l ∧ l ≤ 258
  · obtain ⟨c1, c2⟩ := c
    let M0 : mm_M := (fun _ _ => 0, fun _ _ => 0, 0)
    let L0 : Int32 := Int32.ofNat l
    have e0 : L0.toInt = l := Int32.toInt_ofNat_of_lt (by omega)
    obtain ⟨s, e, a1, a2, a3, a4, a5, a6, a7, a8, -⟩ := mq_len (L := L0) (M := M0) (N := M0) (by omega) (by omega)
    obtain ⟨r, a9, a10⟩ := mq_82 (M := M0) (x := s) (s := s.toInt.toNat) (by omega)
    have kf := mc_kf_le s.toInt.toNat
    have hre : (r + e).toInt = r.toInt + e.toInt := by rw [mi_add]; omega
    refine ⟨(r + e).toInt, fun _ _ => ⟨by omega, by omega, fun L hL M N => ?_⟩⟩
    have : L = L0 := Int32.toInt_inj.mp (by omega)
    subst this
    obtain ⟨s1, e1, b1, b2, b3, b4, -⟩ := mq_len (L := L0) (M := M) (N := M0) (by omega) (by omega)
    rw [a3] at b3
    obtain rfl : s = s1 := by simpa using b3
    rw [a4] at b4
    obtain rfl : e = e1 := by simpa using b4
    obtain ⟨s2, e2, d1, d2, d3, d4, -⟩ := mq_len (L := L0) (M := M0) (N := N) (by omega) (by omega)
    rw [a1] at d1
    obtain rfl : s = s2 := by simpa using d1
    rw [a2] at d2
    obtain rfl : e = e2 := by simpa using d2
    obtain ⟨r2, f1, f2⟩ := mq_82 (M := M) (x := s) (s := s.toInt.toNat) (by omega)
    obtain ⟨r3, g1, g2⟩ := mq_82 (M := N) (x := s) (s := s.toInt.toNat) (by omega)
    obtain rfl : r = r2 := Int32.toInt_inj.mp (by omega)
    obtain rfl : r = r3 := Int32.toInt_inj.mp (by omega)
    exact ⟨s, e, r, b1, b2, f1, d3, g1, d4, rfl⟩
  · exact ⟨0, fun a b => absurd ⟨a, b⟩ c⟩
noncomputable def mc_lc (l : Nat) : Int := Classical.choose (mq_lcx l)
theorem mq_lcs {l : Nat} (h3 : 3 ≤ l) (h : l ≤ 258) : 0 ≤ mc_lc l ∧ mc_lc l ≤ 40 ∧ ∀ (L : Int32), L.toInt = l → ∀ M N : mm_M, ∃ s e r : Int32, mf_94 L M = some (.inl s, M) ∧ mf_95 L M = some (.inl e, M) ∧ mf_82 s M = some (.inl r, M) ∧ mf_254 L N = some (.inl s, N) ∧ mf_286 s N = some (.inl r, N) ∧ mf_258 s N = some (.inl e, N) ∧ (r + e).toInt = mc_lc l := Classical.choose_spec (mq_lcx l) h3 h
theorem mq_ld_m : ∀ i : Fin 31, ∀ j : Fin 31, i.val ≤ j.val → mq_ld i.val ≤ mq_ld j.val := by decide
theorem mq_gdx : ∀ d : Nat, ∃ k : Nat, 1 ≤ d → d ≤ 32768 → k < 30 ∧ mq_ld k ≤ d ∧ d < mq_ld (k + 1) ∧ ∀ (D : Int32), D.toInt = d → ∀ M N : mm_M, ∃ s e : Int32, mf_96 D M = some (.inl e, M) ∧ mf_257 D N = some (.inl s, N) ∧ mf_259 s N = some (.inl e, N) ∧ e.toInt = ((if k < 4 then 0 else k / 2 - 1 : Nat) : Int) := by
  intro d
  by_cases c : 1 ≤ d ∧ d ≤ 32768
  · obtain ⟨c1, c2⟩ := c
    let M0 : mm_M := (fun _ _ => 0, fun _ _ => 0, 0)
    let L0 : Int32 := Int32.ofNat d
    have e0 : L0.toInt = d := Int32.toInt_ofNat_of_lt (by omega)
    obtain ⟨s0, a1, k, a2, a3, a4, a5⟩ := mq_257 (d := L0) (N := M0) (by omega) (by omega)
    refine ⟨k, fun _ _ => ⟨a3, by omega, by omega, fun D hD M N => ?_⟩⟩
    have : D = L0 := Int32.toInt_inj.mp (by omega)
    subst this
    obtain ⟨s, e, b1, b2, b3, b4, -⟩ := mq_wdist (d := L0) (M := M) (N := N) (by omega) (by omega)
    obtain ⟨s2, e2, d1, d2, d3, d4, -⟩ := mq_wdist (d := L0) (M := M) (N := M0) (by omega) (by omega)
    rw [a1] at d3
    obtain rfl : s0 = s2 := by simpa using d3
    rw [b1] at d1
    obtain rfl : e = e2 := by simpa using d1
    obtain rfl : s = s0 := by rw [b2, d2]
    refine ⟨s, e, b1, b3, b4, ?_⟩
    unfold mf_259 at b4
    by_cases q : s < 4
    · rw [if_pos q] at b4
      rw [Int32.lt_iff_toInt_lt] at q
      simp only [Int32.reduceToInt] at q
      obtain rfl : (0 : Int32) = e := by simpa using b4
      rw [if_pos (by omega)]; rfl
    · rw [if_neg q] at b4
      rw [Int32.lt_iff_toInt_lt] at q
      simp only [Int32.reduceToInt] at q
      obtain rfl : s / 2 - 1 = e := by simpa using b4
      rw [if_neg (by omega), mi_sub, mi_div (by omega) (by decide), a2]
      simp only [Int32.reduceToInt]
      omega
  · exact ⟨0, fun a b => absurd ⟨a, b⟩ c⟩
noncomputable def mc_gk (d : Nat) : Nat := Classical.choose (mq_gdx d)
noncomputable def mc_gd (d : Nat) : Int := ((if mc_gk d < 4 then 0 else mc_gk d / 2 - 1 : Nat) : Int)
theorem mq_gk {d : Nat} (h1 : 1 ≤ d) (h : d ≤ 32768) : mc_gk d < 30 ∧ mq_ld (mc_gk d) ≤ d ∧ d < mq_ld (mc_gk d + 1) ∧ ∀ (D : Int32), D.toInt = d → ∀ M N : mm_M, ∃ s e : Int32, mf_96 D M = some (.inl e, M) ∧ mf_257 D N = some (.inl s, N) ∧ mf_259 s N = some (.inl e, N) ∧ e.toInt = mc_gd d := Classical.choose_spec (mq_gdx d) h1 h
theorem mq_gd_b {d : Nat} (h1 : 1 ≤ d) (h : d ≤ 32768) : 0 ≤ mc_gd d ∧ mc_gd d ≤ 20 := by
  have := (mq_gk h1 h).1
  unfold mc_gd
  split <;> omega
theorem mq_gd_m {d e : Nat} (h1 : 1 ≤ d) (h2 : d ≤ e) (h : e ≤ 32768) : mc_gd d ≤ mc_gd e := by
  obtain ⟨a1, a2, a3, -⟩ := mq_gk (d := d) h1 (by omega)
  obtain ⟨b1, b2, b3, -⟩ := mq_gk (d := e) (by omega) h
  have : mc_gk d ≤ mc_gk e := by
    apply Decidable.byContradiction
    intro c
    have := mq_ld_m ⟨mc_gk e + 1, by omega⟩ ⟨mc_gk d, by omega⟩ (by dsimp only; omega)
    dsimp only at this
    omega
  unfold mc_gd
  split <;> split <;> omega
/-- the least of many -/
def mc_mp (v : Int) (h : Nat → Int) (a b : Nat) (V : Int) : Prop := V ≤ v ∧ (∀ l, a ≤ l → l < b → V ≤ h l) ∧ (V = v ∨ ∃ l, a ≤ l ∧ l < b ∧ V = h l)
theorem mc_mp_0 {v : Int} {h : Nat → Int} {a b : Nat} (hb : b ≤ a) : mc_mp v h a b v := ⟨by omega, fun l h1 h2 => by omega, .inl rfl⟩
theorem mc_mp_s {v V W : Int} {h : Nat → Int} {a b : Nat} (q : mc_mp v h a b V) (hb : a ≤ b) (hW : W = if h b < V then h b else V) : mc_mp v h a (b + 1) W := by
  obtain ⟨q1, q2, q3⟩ := q
  by_cases c : h b < V
  · rw [if_pos c] at hW
    refine ⟨by omega, fun l l1 l2 => ?_, .inr ⟨b, hb, by omega, hW⟩⟩
    by_cases z : l = b
    · rw [z]; omega
    · have := q2 l l1 (by omega); omega
  · rw [if_neg c] at hW
    refine ⟨by omega, fun l l1 l2 => ?_, ?_⟩
    · by_cases z : l = b
      · rw [z]; omega
      · have := q2 l l1 (by omega); omega
    · rcases q3 with q3 | ⟨l, l1, l2, l3⟩
      · exact .inl (by omega)
      · exact .inr ⟨l, l1, by omega, by omega⟩
theorem mq_98 {L D : Int32} {M : mm_M} {l d : Nat} (hL : L.toInt = l) (hD : D.toInt = d) (h3 : 3 ≤ l) (h4 : l ≤ 258) (h1 : 1 ≤ d) (h2 : d ≤ 32768) : ∃ r, mf_98 L D M = some (.inl r, M) ∧ r.toInt = mc_lc l + 5 + mc_gd d := by
  obtain ⟨a1, a2, a3⟩ := mq_lcs h3 h4
  obtain ⟨s, e, r, b1, b2, b3, -, -, -, b4⟩ := a3 L hL M M
  obtain ⟨-, -, -, c1⟩ := mq_gk h1 h2
  obtain ⟨s2, e2, c2, -, -, c3⟩ := c1 D hD M M
  have gb := mq_gd_b h1 h2
  refine ⟨r + e + 5 + e2, ?_, ?_⟩
  · unfold mf_98
    rw [b1, mq_Bs, b3, mq_Bs, b2, mq_Bs, c2]
    rfl
  · rw [mi_add, mi_add, b4, c3]
    simp only [Int32.reduceToInt]
    omega
