/-! FORM 10: when it is wrong -/
theorem mq_233z {A M : mm_M} {v : Int32} (hz : mq_Z A) (g : mq_ob A M) : mf_233 v M = some (.inl 0, M) := by
  unfold mf_233
  rw [if_neg (by rw [g 84 7 rfl, hz.1]; decide)]
theorem mq_194z {A M : mm_M} {v : Int32} (hz : mq_Z A) (g : mq_ob A M) : mf_194 v M = some (.inl 0, M) := by
  unfold mf_194 mf_194_j21
  rw [if_neg (by rw [g 84 7 rfl, hz.1]; decide), if_neg (by rw [g 84 7 rfl, hz.1]; decide)]
theorem mq_ob_kp {A B C : mm_M} {w : List (Nat × Option Nat)} (g : mq_ob A B) (k : mq_kp w B C) (h : w.all (fun e => mq_obl.all (fun f => !(e.1 == f.1) || (match e.2, f.2 with | some i, some j => !(i == j) | _, _ => false))) = true) : mq_ob A C := by
  intro p i hi
  refine ((k p i ?_).1).trans (g p i hi)
  rw [Bool.eq_false_iff]
  intro hw
  simp only [mq_ws, List.any_eq_true, Bool.and_eq_true, beq_iff_eq] at hw hi
  obtain ⟨e, he, hp, hei⟩ := hw
  obtain ⟨f, hf, hfp, hfi⟩ := hi
  simp only [List.all_eq_true] at h
  have q := h e he f hf
  rw [hp, hfp] at q
  simp only [beq_self_eq_true, Bool.not_true, Bool.false_or] at q
  obtain ⟨ep, ei⟩ := e
  obtain ⟨fp, fi⟩ := f
  cases ei with
  | none => simp at q
  | some a =>
    cases fi with
    | none => simp at q
    | some b =>
      simp only [beq_iff_eq] at hei hfi
      subst hei hfi
      simp at q
theorem md_234_L5 {A M : mm_M} {v1 v2 : Int32} {s : Int32 × Int32} (hz : mq_Z A) (g : mq_ob A M) : mq_D A (mf_234_L5 v1 v2 s M) := by
  unfold mf_234_L5
  refine mq_d_Lc (I := fun _ => True) (m := fun (s : Int32 × Int32) => (v2.toInt - s.2.toInt).toNat) ?_ trivial g
  rintro ⟨x, k⟩ N _ g
  unfold mf_234_b5
  dsimp only
  refine mq_1_ite (fun c => ?_) (fun c => mq_1_ret ⟨.inr ⟨_, rfl⟩, g⟩)
  rw [mq_233z hz g, mq_Bs]
  refine mq_1_ret ⟨.inl ⟨_, rfl, trivial, ?_⟩, g⟩
  have := mq_hi v2
  have := mq_lo k
  rw [Int32.lt_iff_toInt_lt] at c
  dsimp only
  rw [mi_add]; simp only [Int32.reduceToInt]; omega
theorem md_234 {A M : mm_M} {v1 v2 : Int32} (hz : mq_Z A) (g : mq_ob A M) : mq_D A (mf_234 v1 v2 M) := by
  unfold mf_234
  exact mq_d_B (md_234_L5 hz g) (fun _ _ g => mq_d_ret g)
theorem md_235_L8 {A M : mm_M} {v1 v2 : Int32} {s : Int32 × Int64 × Int32} (hz : mq_Z A) (g : mq_ob A M) : mq_D A (mf_235_L8 v1 v2 s M) := by
  unfold mf_235_L8
  refine mq_d_Lc (I := fun _ => True) (m := fun (s : Int32 × Int64 × Int32) => (v2.toInt - s.2.2.toInt).toNat) ?_ trivial g
  rintro ⟨x, y, k⟩ N _ g
  unfold mf_235_b8
  dsimp only
  refine mq_1_ite (fun c => ?_) (fun c => mq_1_ret ⟨.inr ⟨_, rfl⟩, g⟩)
  rw [mq_233z hz g, mq_Bs]
  refine mq_1_ret ⟨.inl ⟨_, rfl, trivial, ?_⟩, g⟩
  have := mq_hi v2
  have := mq_lo k
  rw [Int32.lt_iff_toInt_lt] at c
  dsimp only
  rw [mi_add]; simp only [Int32.reduceToInt]; omega
theorem md_235 {A M : mm_M} {v1 v2 : Int32} (hz : mq_Z A) (g : mq_ob A M) : mq_D A (mf_235 v1 v2 M) := by
  unfold mf_235
  exact mq_d_B (md_235_L8 hz g) (fun _ _ g => mq_d_ret g)
theorem md_242 {A M : mm_M} {v1 v2 : Int32} (hz : mq_Z A) (g : mq_ob A M) : mq_D A (mf_242 v1 v2 M) := by
  unfold mf_242
  rw [mq_233z hz g, mq_Bs, if_pos rfl]
  exact mq_d_B (md_234 hz g) (fun _ _ g => mq_d_ret g)
theorem md_243_j14 {A M : mm_M} {v1 : Int32} (hz : mq_Z A) (g : mq_ob A M) : mq_D A (mf_243_j14 v1 M) := by
  unfold mf_243_j14
  refine mq_d_B (md_234 hz g) (fun _ _ g => mq_d_ite (fun _ => mq_d_ret g) (fun _ => mq_d_ite (fun _ => ?_) (fun _ => ?_)))
  · exact mq_d_B (md_235 hz g) (fun _ _ g => mq_d_ret g)
  · exact mq_d_B (mq_d_c hz g (fun z => md_236 z)) (fun _ _ g => mq_d_B (md_235 hz g) (fun _ _ g => mq_d_ret g))
theorem md_243 {A M : mm_M} {v1 : Int32} (hz : mq_Z A) (g : mq_ob A M) : mq_D A (mf_243 v1 M) := by
  unfold mf_243
  exact mq_d_ite (fun _ => md_243_j14 hz g) (fun _ => md_243_j14 hz g)
theorem md_241_L118 {A M : mm_M} {v1 v2 : Int32} {s : Int32 × Int32 × Int32} (hz : mq_Z A) (g : mq_ob A M) : mq_D A (mf_241_L118 v1 v2 s M) := by
  unfold mf_241_L118
  refine mq_d_Lc (I := fun _ => True) (m := fun (s : Int32 × Int32 × Int32) => (s.2.2.toInt + 1).toNat) ?_ trivial g
  rintro ⟨x, y, k⟩ N _ g
  unfold mf_241_b118
  dsimp only
  refine mq_1_ite (fun c => mq_1_ret ⟨.inr ⟨_, rfl⟩, g⟩) (fun c => ?_)
  rw [Int32.lt_iff_toInt_lt] at c
  simp only [Int32.reduceToInt] at c
  have e : (k + -1).toInt = k.toInt - 1 := by have := mq_hi k; rw [mi_add]; rw [show (-1 : Int32).toInt = -1 from rfl]; omega
  have fin : ∀ a b c d, mq_1 (mf_241_j152 v1 x v2 y k a b c N) (fun r N2 => ((∃ s2, r = .inl s2 ∧ True ∧ (s2.2.2.toInt + 1).toNat < (k.toInt + 1).toNat) ∨ (∃ x, r = .inr x)) ∧ mq_ob A N2) ∨ d := by
    intro a b c d
    left
    unfold mf_241_j152
    rw [mq_233z hz g, mq_Bs]
    refine mq_1_ite (fun _ => ?_) (fun _ => mq_1_ite (fun _ => ?_) (fun _ => ?_))
    all_goals exact mq_1_ret ⟨.inl ⟨_, rfl, trivial, by dsimp only; omega⟩, g⟩
  refine mq_1_ite (fun _ => ?_) (fun _ => ?_)
  · exact (fin _ _ _ False).elim id False.elim
  · exact (fin _ _ _ False).elim id False.elim
theorem md_241_j193 {A M : mm_M} {v : Int32} (hz : mq_Z A) (g : mq_ob A M) : mq_D A (mf_241_j193 v M) := by
  unfold mf_241_j193
  rw [mq_194z hz g, mq_Bs, if_pos rfl]
  refine mq_d_ret (mq_ob_same g ?_)
  rw [g 84 8 rfl]; exact Int32.add_zero _
theorem md_238_j450 {A M : mm_M} {v1 : Int64} {v4 : Int32} (hz : mq_Z A) (g : mq_ob A M) : mq_D A (mf_238_j450 v1 v4 M) := by
  unfold mf_238_j450
  refine mq_d_B (mq_d_c hz g (fun z => md_240 z)) (fun _ _ g => ?_)
  rw [if_pos (show mm_in 0 4 = true from by decide)]
  exact mq_d_B (mq_d_c hz g (fun z => md_196 z)) (fun _ _ g => mq_d_ret g)
theorem md_238_j188 {A M : mm_M} {v1 v5 : Int64} {v4 s1 : Int32} (hz : mq_Z A) (g : mq_ob A M) : mq_D A (mf_238_j188 v1 v4 v5 s1 M) := by
  unfold mf_238_j188
  exact mq_d_w hz g (md_238_j450 hz (mq_ob_pi g rfl))
theorem md_238_j163 {A M : mm_M} {v1 v5 : Int64} {v4 : Int32} (hz : mq_Z A) (g : mq_ob A M) : mq_D A (mf_238_j163 v1 v4 v5 M) := by
  unfold mf_238_j163
  rw [if_pos (show mm_in 0 4 = true from by decide)]
  exact mq_d_ite (fun _ => md_238_j188 hz (mq_ob_pl g)) (fun _ => md_238_j188 hz (mq_ob_pl g))
theorem md_238_j282 {A M : mm_M} {v1 : Int64} {v5 s0 : Int32} (hz : mq_Z A) (g : mq_ob A M) : mq_D A (mf_238_j282 v1 v5 s0 M) := by
  unfold mf_238_j282
  refine mq_d_ite (fun _ => mq_d_ite (fun _ => ?_) (fun _ => ?_)) (fun _ => mq_d_ite (fun _ => ?_) (fun _ => ?_))
  all_goals exact md_238_j450 hz (mq_ob_pi g rfl)
theorem md_238_j263 {A M : mm_M} {v1 : Int64} {v5 s0 : Int32} (hz : mq_Z A) (g : mq_ob A M) : mq_D A (mf_238_j263 v1 v5 s0 M) := by
  unfold mf_238_j263
  exact mq_d_ite (fun _ => mq_d_B (md_242 hz g) (fun _ _ g => md_238_j282 hz g)) (fun _ => md_238_j282 hz g)
theorem md_238_j412 {A M : mm_M} {v1 v6 : Int64} {v3 : Int32} (hz : mq_Z A) (g : mq_ob A M) : mq_D A (mf_238_j412 v1 v3 v6 M) := by
  unfold mf_238_j412 mf_238_j447
  rw [if_pos (show mm_in 0 4 = true from by decide)]
  refine mq_d_B (md_242 hz (mq_ob_pl g)) (fun _ _ g => mq_d_ite (fun _ => ?_) (fun _ => ?_))
  all_goals exact md_238_j450 hz (mq_ob_pi g rfl)
/-- the last distances, one further -/
theorem mq_L136 {a c : Int64} {b : Int32} {M : mm_M} : mf_238_L136 a b c 3 M = some (.inl (), mm_pl (mm_pl (mm_pl M 99 3 (M.2.1 99 2)) 99 2 (M.2.1 99 1)) 99 1 (M.2.1 99 0)) := by
  have s3 : ∀ M, mf_238_b136 a b c 3 M = some (.inl (.inl 2), mm_pl M 99 3 (M.2.1 99 2)) := fun M => rfl
  have s2 : ∀ M, mf_238_b136 a b c 2 M = some (.inl (.inl 1), mm_pl M 99 2 (M.2.1 99 1)) := fun M => rfl
  have s1 : ∀ M, mf_238_b136 a b c 1 M = some (.inl (.inl 0), mm_pl M 99 1 (M.2.1 99 0)) := fun M => rfl
  have s0 : ∀ M, mf_238_b136 a b c 0 M = some (.inl (.inr ()), M) := fun M => rfl
  unfold mf_238_L136
  rw [mm_L_eq, s3]
  show mm_L _ 2 _ = _
  rw [mm_L_eq, s2]
  show mm_L _ 1 _ = _
  rw [mm_L_eq, s1]
  show mm_L _ 0 _ = _
  rw [mm_L_eq, s0]
  rfl
theorem mq_L385_1 {a c : Int64} {b : Int32} {M : mm_M} : mf_238_L385 a b c 1 M = some (.inl (), mm_pl M 99 1 (M.2.1 99 0)) := by
  have s1 : ∀ M, mf_238_b385 a b c 1 M = some (.inl (.inl 0), mm_pl M 99 1 (M.2.1 99 0)) := fun M => rfl
  have s0 : ∀ M, mf_238_b385 a b c 0 M = some (.inl (.inr ()), M) := fun M => rfl
  unfold mf_238_L385
  rw [mm_L_eq, s1]
  show mm_L _ 0 _ = _
  rw [mm_L_eq, s0]
  rfl
theorem mq_L385_2 {a c : Int64} {b : Int32} {M : mm_M} : mf_238_L385 a b c 2 M = some (.inl (), mm_pl (mm_pl M 99 2 (M.2.1 99 1)) 99 1 (M.2.1 99 0)) := by
  have s2 : ∀ M, mf_238_b385 a b c 2 M = some (.inl (.inl 1), mm_pl M 99 2 (M.2.1 99 1)) := fun M => rfl
  have s1 : ∀ M, mf_238_b385 a b c 1 M = some (.inl (.inl 0), mm_pl M 99 1 (M.2.1 99 0)) := fun M => rfl
  have s0 : ∀ M, mf_238_b385 a b c 0 M = some (.inl (.inr ()), M) := fun M => rfl
  unfold mf_238_L385
  rw [mm_L_eq, s2]
  show mm_L _ 1 _ = _
  rw [mm_L_eq, s1]
  show mm_L _ 0 _ = _
  rw [mm_L_eq, s0]
  rfl
theorem mq_L385_3 {a c : Int64} {b : Int32} {M : mm_M} : mf_238_L385 a b c 3 M = some (.inl (), mm_pl (mm_pl (mm_pl M 99 3 (M.2.1 99 2)) 99 2 (M.2.1 99 1)) 99 1 (M.2.1 99 0)) := by
  have s3 : ∀ M, mf_238_b385 a b c 3 M = some (.inl (.inl 2), mm_pl M 99 3 (M.2.1 99 2)) := fun M => rfl
  have s2 : ∀ M, mf_238_b385 a b c 2 M = some (.inl (.inl 1), mm_pl M 99 2 (M.2.1 99 1)) := fun M => rfl
  have s1 : ∀ M, mf_238_b385 a b c 1 M = some (.inl (.inl 0), mm_pl M 99 1 (M.2.1 99 0)) := fun M => rfl
  have s0 : ∀ M, mf_238_b385 a b c 0 M = some (.inl (.inr ()), M) := fun M => rfl
  unfold mf_238_L385
  rw [mm_L_eq, s3]
  show mm_L _ 2 _ = _
  rw [mm_L_eq, s2]
  show mm_L _ 1 _ = _
  rw [mm_L_eq, s1]
  show mm_L _ 0 _ = _
  rw [mm_L_eq, s0]
  rfl
theorem md_238_j364 {A M : mm_M} {v1 : Int64} {v3 s0 : Int32} (hz : mq_Z A) (g : mq_ob A M) (hs : s0 = 1 ∨ s0 = 2 ∨ s0 = 3) : mq_D A (mf_238_j364 v1 v3 s0 M) := by
  unfold mf_238_j364
  refine mq_d_B (mq_d_c hz g (fun z => md_239 z)) (fun _ _ g => ?_)
  rcases hs with rfl | rfl | rfl
  · rw [if_pos (show mm_in 1 4 = true from by decide), mq_L385_1, mq_Bs]
    exact md_238_j412 hz (mq_ob_pl g)
  · rw [if_pos (show mm_in 2 4 = true from by decide), mq_L385_2, mq_Bs]
    exact md_238_j412 hz (mq_ob_pl (mq_ob_pl g))
  · rw [if_pos (show mm_in 3 4 = true from by decide), mq_L385_3, mq_Bs]
    exact md_238_j412 hz (mq_ob_pl (mq_ob_pl (mq_ob_pl g)))
