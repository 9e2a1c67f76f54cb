/-! WHEN IT IS WRONG, BY THE TEXT OF THE METHODS -/
theorem mq_1_w {α : Type} {A B : mm_M} {Q : α → mm_M → Prop} {i : Decidable (B.1 84 7 = 0)} {a b : mm_O α} (hz : mq_Z A) (h : mq_ob A B) (hb : mq_1 b Q) : mq_1 (@ite (mm_O α) (B.1 84 7 = 0) i a b) Q := by
  rw [if_neg (by rw [h 84 7 rfl, hz.1]; decide)]; exact hb
theorem mq_d_sm {α β γ : Type} {A : mm_M} {f : α → mm_O γ} {g : β → mm_O γ} {r : α ⊕ β} (ha : ∀ a, mq_D A (f a)) (hb : ∀ b, mq_D A (g b)) : mq_D A (mm_sm f g r) := by
  cases r with
  | inl a => exact ha a
  | inr b => exact hb b
theorem md_191_j29 {A M : mm_M} (hz : mq_Z A) (g : mq_ob A M) : mq_D A (mf_191_j29 M) := by
  unfold mf_191_j29
  exact mq_d_B (mq_d_c hz g (fun z => md_190 z)) (fun _ M1 gM1 => mq_d_ret gM1)
theorem md_194_j21 {v1 : Int32} {A M : mm_M} (hz : mq_Z A) (g : mq_ob A M) : mq_D A (mf_194_j21 v1 M) := by
  unfold mf_194_j21
  exact mq_d_w hz g (mq_d_ret g)
theorem md_214_L32 {v1 : Int32} {s : Int32} {A M : mm_M} (hz : mq_Z A) (g : mq_ob A M) : mq_D A (mf_214_L32 v1 s M) := by
  unfold mf_214_L32
  refine mq_d_L ?_
  unfold mf_214_b32
  exact mq_1_ite (fun _ => mq_1_ret ⟨⟨_, rfl⟩, g⟩) (fun _ => mq_1_w hz g (mq_1_ret ⟨⟨_, rfl⟩, g⟩))
theorem md_214_L78 {v1 : Int32} {v2 : Int32} {s : Int32} {A M : mm_M} (hz : mq_Z A) (g : mq_ob A M) : mq_D A (mf_214_L78 v1 v2 s M) := by
  unfold mf_214_L78
  refine mq_d_L ?_
  unfold mf_214_b78
  exact mq_1_ite (fun _ => mq_1_w hz g (mq_1_ret ⟨⟨_, rfl⟩, g⟩)) (fun _ => mq_1_ret ⟨⟨_, rfl⟩, g⟩)
theorem md_214_L0 {s : Unit} {A M : mm_M} (hz : mq_Z A) (g : mq_ob A M) : mq_D A (mf_214_L0 s M) := by
  unfold mf_214_L0
  refine mq_d_L ?_
  unfold mf_214_b0
  exact mq_1_ite (fun _ => mq_1_w hz g (mq_1_ret ⟨⟨_, rfl⟩, g⟩)) (fun _ => mq_1_ret ⟨⟨_, rfl⟩, g⟩)
theorem md_214 {M : mm_M} (hz : mq_Z M) : mq_D M (mf_214 M) := by
  unfold mf_214
  exact mq_d_B (md_214_L0 hz mq_ob_refl) (fun _ M1 gM1 => mq_d_ret gM1)
theorem md_197_j21 {A M : mm_M} (hz : mq_Z A) (g : mq_ob A M) : mq_D A (mf_197_j21 M) := by
  unfold mf_197_j21
  exact mq_d_w hz g (mq_d_ret g)
theorem md_198_L5 {v1 : Int32} {s : Int64 × Int32} {A M : mm_M} (hz : mq_Z A) (g : mq_ob A M) : mq_D A (mf_198_L5 v1 s M) := by
  unfold mf_198_L5
  refine mq_d_L ?_
  unfold mf_198_b5
  exact mq_1_ite (fun _ => mq_1_w hz g (mq_1_ret ⟨⟨_, rfl⟩, g⟩)) (fun _ => mq_1_ret ⟨⟨_, rfl⟩, g⟩)
theorem md_195_L2 {v1 : Int64} {s : Int64} {A M : mm_M} (hz : mq_Z A) (g : mq_ob A M) : mq_D A (mf_195_L2 v1 s M) := by
  unfold mf_195_L2
  refine mq_d_L ?_
  unfold mf_195_b2
  exact mq_1_ite (fun _ => mq_1_w hz g (mq_1_ret ⟨⟨_, rfl⟩, g⟩)) (fun _ => mq_1_ret ⟨⟨_, rfl⟩, g⟩)
theorem md_204_j38 {v1 : Int32} {A M : mm_M} (hz : mq_Z A) (g : mq_ob A M) : mq_D A (mf_204_j38 v1 M) := by
  unfold mf_204_j38
  exact mq_d_B (mq_d_c hz g (fun z => md_195 z)) (fun _ M1 gM1 => mq_d_ret gM1)
theorem md_204 {M : mm_M} (hz : mq_Z M) : mq_D M (mf_204 M) := by
  unfold mf_204
  exact mq_d_B (mq_d_c hz (mq_ob_pi mq_ob_refl rfl) (fun z => md_193 z)) (fun _ M2 gM2 => mq_d_B (mq_d_c hz gM2 (fun z => md_193 z)) (fun _ M4 gM4 => mq_d_w hz gM4 (md_204_j38 hz gM4)))
theorem md_201_j97 {v3 : Int32} {v4 : Int32} {A M : mm_M} (hz : mq_Z A) (g : mq_ob A M) : mq_D A (mf_201_j97 v3 v4 M) := by
  unfold mf_201_j97
  exact mq_d_ite (fun _ => mq_d_ret g) (fun _ => mq_d_ite (fun _ => mq_d_ret g) (fun _ => mq_d_ret g))
theorem md_202_L114 {v2 : Int32} {v3 : Int32} {v4 : Int32} {v5 : Int32} {s : Int32} {A M : mm_M} (hz : mq_Z A) (g : mq_ob A M) : mq_D A (mf_202_L114 v2 v3 v4 v5 s M) := by
  unfold mf_202_L114
  refine mq_d_L ?_
  unfold mf_202_b114
  exact mq_1_ite (fun _ => mq_1_w hz g (mq_1_ret ⟨⟨_, rfl⟩, g⟩)) (fun _ => mq_1_ret ⟨⟨_, rfl⟩, g⟩)
theorem md_202_L12 {v2 : Int32} {v3 : Int32} {s : Int32 × Int32} {A M : mm_M} (hz : mq_Z A) (g : mq_ob A M) : mq_D A (mf_202_L12 v2 v3 s M) := by
  unfold mf_202_L12
  refine mq_d_L ?_
  unfold mf_202_b12
  exact mq_1_w hz g (mq_1_ret ⟨⟨_, rfl⟩, g⟩)
theorem md_202_j91 {A M : mm_M} (hz : mq_Z A) (g : mq_ob A M) : mq_D A (mf_202_j91 M) := by
  unfold mf_202_j91
  exact mq_d_B (mq_d_c hz g (fun z => md_190 z)) (fun _ M1 gM1 => mq_d_ret gM1)
theorem md_202 {v1 : Int32} {v2 : Int32} {M : mm_M} (hz : mq_Z M) : mq_D M (mf_202 v1 v2 M) := by
  unfold mf_202
  exact mq_d_B (md_202_L12 hz mq_ob_refl) (fun _ M1 gM1 => mq_d_sm (fun _ => md_202_j91 hz gM1) (fun _ => mq_d_sm (fun _ => mq_d_ret gM1) (fun _ => mq_d_ret gM1)))
theorem md_207_L150 {v1 : Int32} {v4 : Int32} {v5 : Int32} {s : Int32 × Int32} {A M : mm_M} (hz : mq_Z A) (g : mq_ob A M) : mq_D A (mf_207_L150 v1 v4 v5 s M) := by
  unfold mf_207_L150
  refine mq_d_L ?_
  unfold mf_207_b150
  exact mq_1_ite (fun _ => mq_1_w hz g (mq_1_ret ⟨⟨_, rfl⟩, g⟩)) (fun _ => mq_1_ret ⟨⟨_, rfl⟩, g⟩)
theorem md_207_L2 {v1 : Int32} {s : Int32} {A M : mm_M} (hz : mq_Z A) (g : mq_ob A M) : mq_D A (mf_207_L2 v1 s M) := by
  unfold mf_207_L2
  refine mq_d_L ?_
  unfold mf_207_b2
  exact mq_1_ite (fun _ => mq_1_w hz g (mq_1_ret ⟨⟨_, rfl⟩, g⟩)) (fun _ => mq_1_ret ⟨⟨_, rfl⟩, g⟩)
theorem md_207 {v1 : Int32} {M : mm_M} (hz : mq_Z M) : mq_D M (mf_207 v1 M) := by
  unfold mf_207
  exact mq_d_B (md_207_L2 hz mq_ob_refl) (fun _ M1 gM1 => mq_d_ret gM1)
theorem md_196_L97 {v1 : Int32} {v5 : Int32} {s : Int32} {A M : mm_M} (hz : mq_Z A) (g : mq_ob A M) : mq_D A (mf_196_L97 v1 v5 s M) := by
  unfold mf_196_L97
  refine mq_d_L ?_
  unfold mf_196_b97
  exact mq_1_ite (fun _ => mq_1_w hz g (mq_1_ret ⟨⟨_, rfl⟩, g⟩)) (fun _ => mq_1_ret ⟨⟨_, rfl⟩, g⟩)
theorem md_196_j30 {v1 : Int32} {v2 : Int64} {A M : mm_M} (hz : mq_Z A) (g : mq_ob A M) : mq_D A (mf_196_j30 v1 v2 M) := by
  unfold mf_196_j30
  exact mq_d_w hz g (mq_d_ret g)
theorem md_196_j26 {v1 : Int32} {v2 : Int64} {A M : mm_M} (hz : mq_Z A) (g : mq_ob A M) : mq_D A (mf_196_j26 v1 v2 M) := by
  unfold mf_196_j26
  exact mq_d_B (mq_d_c hz g (fun z => md_190 z)) (fun _ M1 gM1 => md_196_j30 hz gM1)
theorem md_209_j103 {v1 : Int32} {v5 : Int32} {A M : mm_M} (hz : mq_Z A) (g : mq_ob A M) : mq_D A (mf_209_j103 v1 v5 M) := by
  unfold mf_209_j103
  exact mq_d_B (mq_d_c hz g (fun z => md_196 z)) (fun _ M1 gM1 => mq_d_ret gM1)
theorem md_209_j72 {v1 : Int32} {v2 : Int32} {v4 : Int32} {s0 : Int32} {A M : mm_M} (hz : mq_Z A) (g : mq_ob A M) : mq_D A (mf_209_j72 v1 v2 v4 s0 M) := by
  unfold mf_209_j72
  exact mq_d_B (mq_d_c hz g (fun z => md_198 z)) (fun _ M2 gM2 => mq_d_w hz gM2 (md_209_j103 hz gM2))
theorem md_209_j49 {v1 : Int32} {v2 : Int32} {v3 : Int32} {s0 : Int32} {A M : mm_M} (hz : mq_Z A) (g : mq_ob A M) : mq_D A (mf_209_j49 v1 v2 v3 s0 M) := by
  unfold mf_209_j49
  exact mq_d_ite (fun _ => md_209_j72 hz g) (fun _ => md_209_j72 hz g)
theorem md_209_j27 {v1 : Int32} {v2 : Int32} {v3 : Int32} {A M : mm_M} (hz : mq_Z A) (g : mq_ob A M) : mq_D A (mf_209_j27 v1 v2 v3 M) := by
  unfold mf_209_j27
  exact mq_d_w hz g (mq_d_ret g)
theorem md_209 {v1 : Int32} {v2 : Int32} {M : mm_M} (hz : mq_Z M) : mq_D M (mf_209 v1 v2 M) := by
  unfold mf_209
  exact mq_d_B (mq_d_c hz mq_ob_refl (fun z => md_202 z)) (fun _ M2 gM2 => mq_d_w hz gM2 (md_209_j27 hz gM2))
theorem md_208_L2 {v1 : Int32} {s : Int32} {A M : mm_M} (hz : mq_Z A) (g : mq_ob A M) : mq_D A (mf_208_L2 v1 s M) := by
  unfold mf_208_L2
  refine mq_d_L ?_
  unfold mf_208_b2
  exact mq_1_ite (fun _ => mq_1_ret ⟨⟨_, rfl⟩, g⟩) (fun _ => mq_1_w hz g (mq_1_ret ⟨⟨_, rfl⟩, g⟩))
theorem md_208 {v1 : Int32} {M : mm_M} (hz : mq_Z M) : mq_D M (mf_208 v1 M) := by
  unfold mf_208
  exact mq_d_B (md_208_L2 hz mq_ob_refl) (fun _ M1 gM1 => mq_d_sm (fun _ => mq_d_ret gM1) (fun _ => mq_d_ret gM1))
theorem md_203_L12 {v1 : Int32} {s : Int32} {A M : mm_M} (hz : mq_Z A) (g : mq_ob A M) : mq_D A (mf_203_L12 v1 s M) := by
  unfold mf_203_L12
  refine mq_d_L ?_
  unfold mf_203_b12
  exact mq_1_w hz g (mq_1_ret ⟨⟨_, rfl⟩, g⟩)
theorem md_203 {v1 : Int32} {M : mm_M} (hz : mq_Z M) : mq_D M (mf_203 v1 M) := by
  unfold mf_203
  exact mq_d_B (md_203_L12 hz (mq_ob_pi (mq_ob_pi mq_ob_refl rfl) rfl)) (fun _ M1 gM1 => mq_d_sm (fun _ => mq_d_ret gM1) (fun _ => mq_d_ret (mq_ob_pi gM1 rfl)))
theorem md_210_j99 {v3 : Int32} {A M : mm_M} (hz : mq_Z A) (g : mq_ob A M) : mq_D A (mf_210_j99 v3 M) := by
  unfold mf_210_j99
  exact mq_d_w hz g (mq_d_ret g)
theorem md_211_L2 {s : Int32} {A M : mm_M} (hz : mq_Z A) (g : mq_ob A M) : mq_D A (mf_211_L2 s M) := by
  unfold mf_211_L2
  refine mq_d_L ?_
  unfold mf_211_b2
  exact mq_1_ite (fun _ => mq_1_ret ⟨⟨_, rfl⟩, g⟩) (fun _ => mq_1_w hz g (mq_1_ret ⟨⟨_, rfl⟩, g⟩))
theorem md_211 {M : mm_M} (hz : mq_Z M) : mq_D M (mf_211 M) := by
  unfold mf_211
  exact mq_d_B (md_211_L2 hz mq_ob_refl) (fun _ M1 gM1 => mq_d_ret gM1)
theorem md_213 {v1 : Int32} {M : mm_M} (hz : mq_Z M) : mq_D M (mf_213 v1 M) := by
  unfold mf_213
  exact mq_d_B (mq_d_c hz mq_ob_refl (fun z => md_193 z)) (fun _ M2 gM2 => mq_d_w hz gM2 (mq_d_ret gM2))
theorem md_212_L75 {v1 : Int32} {v2 : Int32} {s : Int32} {A M : mm_M} (hz : mq_Z A) (g : mq_ob A M) : mq_D A (mf_212_L75 v1 v2 s M) := by
  unfold mf_212_L75
  refine mq_d_L ?_
  unfold mf_212_b75
  exact mq_1_ite (fun _ => mq_1_w hz g (mq_1_ret ⟨⟨_, rfl⟩, g⟩)) (fun _ => mq_1_ret ⟨⟨_, rfl⟩, g⟩)
theorem md_215_L173 {v1 : Int32} {v2 : Int32} {v3 : Int32} {v4 : Int32} {v5 : Int32} {v6 : Int32} {v7 : Int32} {v8 : Int32} {v9 : Int32} {s : Int32} {A M : mm_M} (hz : mq_Z A) (g : mq_ob A M) : mq_D A (mf_215_L173 v1 v2 v3 v4 v5 v6 v7 v8 v9 s M) := by
  unfold mf_215_L173
  refine mq_d_L ?_
  unfold mf_215_b173
  exact mq_1_ite (fun _ => mq_1_w hz g (mq_1_ret ⟨⟨_, rfl⟩, g⟩)) (fun _ => mq_1_ret ⟨⟨_, rfl⟩, g⟩)
theorem md_215_L23 {v1 : Int32} {v2 : Int32} {v3 : Int32} {s : Int32 × Int32 × Int32 × Int32 × Int32} {A M : mm_M} (hz : mq_Z A) (g : mq_ob A M) : mq_D A (mf_215_L23 v1 v2 v3 s M) := by
  unfold mf_215_L23
  refine mq_d_L ?_
  unfold mf_215_b23
  exact mq_1_ite (fun _ => mq_1_ret ⟨⟨_, rfl⟩, g⟩) (fun _ => mq_1_w hz g (mq_1_ret ⟨⟨_, rfl⟩, g⟩))
theorem md_215 {v1 : Int32} {v2 : Int32} {M : mm_M} (hz : mq_Z M) : mq_D M (mf_215 v1 v2 M) := by
  unfold mf_215
  exact mq_d_B (md_215_L23 hz mq_ob_refl) (fun _ M1 gM1 => mq_d_ret gM1)
theorem md_216_j27 {v1 : Int32} {A M : mm_M} (hz : mq_Z A) (g : mq_ob A M) : mq_D A (mf_216_j27 v1 M) := by
  unfold mf_216_j27
  exact mq_d_w hz g (mq_d_ret (mq_ob_pi g rfl))
theorem md_216_j23 {v1 : Int32} {A M : mm_M} (hz : mq_Z A) (g : mq_ob A M) : mq_D A (mf_216_j23 v1 M) := by
  unfold mf_216_j23
  exact mq_d_B (mq_d_c hz g (fun z => md_190 z)) (fun _ M1 gM1 => md_216_j27 hz gM1)
theorem md_216 {M : mm_M} (hz : mq_Z M) : mq_D M (mf_216 M) := by
  unfold mf_216
  exact mq_d_B (mq_d_c hz mq_ob_refl (fun z => md_191 z)) (fun _ M2 gM2 => mq_d_w hz gM2 (md_216_j27 hz gM2))
theorem md_217_L16 {s : Int32 × Int32} {A M : mm_M} (hz : mq_Z A) (g : mq_ob A M) : mq_D A (mf_217_L16 s M) := by
  unfold mf_217_L16
  refine mq_d_L ?_
  unfold mf_217_b16
  exact mq_1_ite (fun _ => mq_1_w hz g (mq_1_ret ⟨⟨_, rfl⟩, g⟩)) (fun _ => mq_1_ret ⟨⟨_, rfl⟩, g⟩)
theorem md_217 {v1 : Int32} {M : mm_M} (hz : mq_Z M) : mq_D M (mf_217 v1 M) := by
  unfold mf_217
  exact mq_d_ite (fun _ => mq_d_B (md_217_L16 hz mq_ob_refl) (fun _ M1 gM1 => mq_d_ret gM1)) (fun _ => mq_d_B (md_217_L16 hz mq_ob_refl) (fun _ M6 gM6 => mq_d_ret gM6))
theorem md_218_L2 {v1 : Int32} {v2 : Int32} {s : Int32} {A M : mm_M} (hz : mq_Z A) (g : mq_ob A M) : mq_D A (mf_218_L2 v1 v2 s M) := by
  unfold mf_218_L2
  refine mq_d_L ?_
  unfold mf_218_b2
  exact mq_1_ite (fun _ => mq_1_ret ⟨⟨_, rfl⟩, g⟩) (fun _ => mq_1_w hz g (mq_1_ret ⟨⟨_, rfl⟩, g⟩))
theorem md_218 {v1 : Int32} {v2 : Int32} {M : mm_M} (hz : mq_Z M) : mq_D M (mf_218 v1 v2 M) := by
  unfold mf_218
  exact mq_d_B (md_218_L2 hz mq_ob_refl) (fun _ M1 gM1 => mq_d_ret gM1)
theorem md_220_j97 {v5 : Int32} {v8 : Int32} {v9 : Int32} {A M : mm_M} (hz : mq_Z A) (g : mq_ob A M) : mq_D A (mf_220_j97 v5 v8 v9 M) := by
  unfold mf_220_j97
  exact mq_d_ite (fun _ => mq_d_ret g) (fun _ => mq_d_w hz g (mq_d_ret g))
theorem md_220_j87 {v5 : Int32} {v8 : Int32} {v9 : Int32} {s1 : Int32} {s2 : Int32} {A M : mm_M} (hz : mq_Z A) (g : mq_ob A M) : mq_D A (mf_220_j87 v5 v8 v9 s1 s2 M) := by
  unfold mf_220_j87
  exact mq_d_B (mq_d_c hz g (fun z => md_218 z)) (fun _ M1 gM1 => md_220_j97 hz (mq_ob_pi gM1 rfl))
theorem md_219_L156 {v2 : Int32} {v4 : Int32} {v5 : Int64} {s : Int32} {A M : mm_M} (hz : mq_Z A) (g : mq_ob A M) : mq_D A (mf_219_L156 v2 v4 v5 s M) := by
  unfold mf_219_L156
  refine mq_d_L ?_
  unfold mf_219_b156
  exact mq_1_ite (fun _ => mq_1_ret ⟨⟨_, rfl⟩, g⟩) (fun _ => mq_1_w hz g (mq_1_ret ⟨⟨_, rfl⟩, g⟩))
theorem md_222_j141 {v6 : Int64} {s0 : Int64} {A M : mm_M} (hz : mq_Z A) (g : mq_ob A M) : mq_D A (mf_222_j141 v6 s0 M) := by
  unfold mf_222_j141
  exact mq_d_B (mq_d_c hz g (fun z => md_196 z)) (fun _ M1 gM1 => mq_d_ret gM1)
theorem md_222_j77 {v1 : Int32} {v4 : Int32} {v6 : Int64} {A M : mm_M} (hz : mq_Z A) (g : mq_ob A M) : mq_D A (mf_222_j77 v1 v4 v6 M) := by
  unfold mf_222_j77
  exact mq_d_ite (fun _ => mq_d_B (mq_d_c hz g (fun z => md_195 z)) (fun _ M1 gM1 => mq_d_ret gM1)) (fun _ => mq_d_w hz g (mq_d_ret g))
theorem md_222_j59 {v1 : Int32} {v2 : Int64} {v4 : Int32} {v6 : Int64} {A M : mm_M} (hz : mq_Z A) (g : mq_ob A M) : mq_D A (mf_222_j59 v1 v2 v4 v6 M) := by
  unfold mf_222_j59
  exact mq_d_w hz g (md_222_j77 hz g)
theorem md_222_j32 {v1 : Int32} {v2 : Int64} {v4 : Int32} {v5 : Int32} {s0 : Int64} {A M : mm_M} (hz : mq_Z A) (g : mq_ob A M) : mq_D A (mf_222_j32 v1 v2 v4 v5 s0 M) := by
  unfold mf_222_j32
  exact mq_d_ite (fun _ => mq_d_ite (fun _ => md_222_j59 hz g) (fun _ => mq_d_B (mq_d_c hz g (fun z => md_193 z)) (fun _ M2 gM2 => md_222_j59 hz gM2))) (fun _ => md_222_j59 hz g)
theorem md_222 {v1 : Int32} {v2 : Int64} {M : mm_M} (hz : mq_Z M) : mq_D M (mf_222 v1 v2 M) := by
  unfold mf_222
  exact mq_d_ite (fun _ => md_222_j32 hz mq_ob_refl) (fun _ => md_222_j32 hz mq_ob_refl)
theorem md_221_L7 {s : Int64 × Int32 × Int32} {A M : mm_M} (hz : mq_Z A) (g : mq_ob A M) : mq_D A (mf_221_L7 s M) := by
  unfold mf_221_L7
  refine mq_d_L ?_
  unfold mf_221_b7
  exact mq_1_ite (fun _ => mq_1_ret ⟨⟨_, rfl⟩, g⟩) (fun _ => mq_1_w hz g (mq_1_ret ⟨⟨_, rfl⟩, g⟩))
theorem md_221_L100 {v1 : Int64} {s : Unit} {A M : mm_M} (hz : mq_Z A) (g : mq_ob A M) : mq_D A (mf_221_L100 v1 s M) := by
  unfold mf_221_L100
  refine mq_d_L ?_
  unfold mf_221_b100
  exact mq_1_w hz g (mq_1_ret ⟨⟨_, rfl⟩, g⟩)
theorem md_221_j81 {v1 : Int64} {A M : mm_M} (hz : mq_Z A) (g : mq_ob A M) : mq_D A (mf_221_j81 v1 M) := by
  unfold mf_221_j81
  exact mq_d_w hz g (mq_d_B (md_221_L100 hz g) (fun _ M18 gM18 => mq_d_ret gM18))
theorem md_221 {M : mm_M} (hz : mq_Z M) : mq_D M (mf_221 M) := by
  unfold mf_221
  exact mq_d_B (md_221_L7 hz mq_ob_refl) (fun _ M1 gM1 => md_221_j81 hz gM1)
theorem md_225_L15 {v1 : Int32} {s : Int32} {A M : mm_M} (hz : mq_Z A) (g : mq_ob A M) : mq_D A (mf_225_L15 v1 s M) := by
  unfold mf_225_L15
  refine mq_d_L ?_
  unfold mf_225_b15
  exact mq_1_ite (fun _ => mq_1_w hz g (mq_1_ret ⟨⟨_, rfl⟩, g⟩)) (fun _ => mq_1_ret ⟨⟨_, rfl⟩, g⟩)
theorem md_225_j113 {A M : mm_M} (hz : mq_Z A) (g : mq_ob A M) : mq_D A (mf_225_j113 M) := by
  unfold mf_225_j113
  exact mq_d_w hz g (mq_d_ret g)
theorem md_225 {M : mm_M} (hz : mq_Z M) : mq_D M (mf_225 M) := by
  unfold mf_225
  exact mq_d_B (mq_d_c hz mq_ob_refl (fun z => md_198 z)) (fun _ M2 gM2 => mq_d_B (md_225_L15 hz (mq_ob_pi gM2 rfl)) (fun _ M3 gM3 => md_225_j113 hz gM3))
theorem md_226_L40 {v1 : Int32} {s : Int32} {A M : mm_M} (hz : mq_Z A) (g : mq_ob A M) : mq_D A (mf_226_L40 v1 s M) := by
  unfold mf_226_L40
  refine mq_d_L ?_
  unfold mf_226_b40
  exact mq_1_w hz g (mq_1_ret ⟨⟨_, rfl⟩, g⟩)
theorem md_226_L23 {s : Int32} {A M : mm_M} (hz : mq_Z A) (g : mq_ob A M) : mq_D A (mf_226_L23 s M) := by
  unfold mf_226_L23
  refine mq_d_L ?_
  unfold mf_226_b23
  exact mq_1_ite (fun _ => mq_1_w hz g (mq_1_ret ⟨⟨_, rfl⟩, g⟩)) (fun _ => mq_1_ret ⟨⟨_, rfl⟩, g⟩)
theorem md_227_L45 {v1 : Int32} {v2 : Int32} {v4 : Int32} {s : Int32} {A M : mm_M} (hz : mq_Z A) (g : mq_ob A M) : mq_D A (mf_227_L45 v1 v2 v4 s M) := by
  unfold mf_227_L45
  refine mq_d_L ?_
  unfold mf_227_b45
  exact mq_1_w hz g (mq_1_ret ⟨⟨_, rfl⟩, g⟩)
theorem md_227_L32 {v1 : Int32} {v2 : Int32} {s : Int32 × Int32} {A M : mm_M} (hz : mq_Z A) (g : mq_ob A M) : mq_D A (mf_227_L32 v1 v2 s M) := by
  unfold mf_227_L32
  refine mq_d_L ?_
  unfold mf_227_b32
  exact mq_1_ite (fun _ => mq_1_w hz g (mq_1_ret ⟨⟨_, rfl⟩, g⟩)) (fun _ => mq_1_ret ⟨⟨_, rfl⟩, g⟩)
theorem md_228_L18 {v1 : Int32} {s : Int32 × Int32 × Int64 × Int32 × Int32} {A M : mm_M} (hz : mq_Z A) (g : mq_ob A M) : mq_D A (mf_228_L18 v1 s M) := by
  unfold mf_228_L18
  refine mq_d_L ?_
  unfold mf_228_b18
  exact mq_1_ite (fun _ => mq_1_ret ⟨⟨_, rfl⟩, g⟩) (fun _ => mq_1_w hz g (mq_1_ret ⟨⟨_, rfl⟩, g⟩))
theorem md_228 {v1 : Int32} {M : mm_M} (hz : mq_Z M) : mq_D M (mf_228 v1 M) := by
  unfold mf_228
  exact mq_d_B (md_228_L18 hz (mq_ob_pi mq_ob_refl rfl)) (fun _ M1 gM1 => mq_d_ret gM1)
theorem md_231_L4 {v1 : Int32} {s : Int32 × Int32} {A M : mm_M} (hz : mq_Z A) (g : mq_ob A M) : mq_D A (mf_231_L4 v1 s M) := by
  unfold mf_231_L4
  refine mq_d_L ?_
  unfold mf_231_b4
  exact mq_1_ite (fun _ => mq_1_w hz g (mq_1_ret ⟨⟨_, rfl⟩, g⟩)) (fun _ => mq_1_ret ⟨⟨_, rfl⟩, g⟩)
theorem md_231_L124 {v3 : Int32} {v5 : Int32} {v6 : Int32} {v7 : Int32} {s : Int32} {A M : mm_M} (hz : mq_Z A) (g : mq_ob A M) : mq_D A (mf_231_L124 v3 v5 v6 v7 s M) := by
  unfold mf_231_L124
  refine mq_d_L ?_
  unfold mf_231_b124
  exact mq_1_ite (fun _ => mq_1_w hz g (mq_1_ret ⟨⟨_, rfl⟩, g⟩)) (fun _ => mq_1_ret ⟨⟨_, rfl⟩, g⟩)
theorem md_231_L91 {s : Int32 × Int32 × Int32 × Int32} {A M : mm_M} (hz : mq_Z A) (g : mq_ob A M) : mq_D A (mf_231_L91 s M) := by
  unfold mf_231_L91
  refine mq_d_L ?_
  unfold mf_231_b91
  exact mq_1_ite (fun _ => mq_1_w hz g (mq_1_ret ⟨⟨_, rfl⟩, g⟩)) (fun _ => mq_1_ret ⟨⟨_, rfl⟩, g⟩)
theorem md_231_j64 {v1 : Int32} {A M : mm_M} (hz : mq_Z A) (g : mq_ob A M) : mq_D A (mf_231_j64 v1 M) := by
  unfold mf_231_j64
  exact mq_d_w hz g (mq_d_B (md_231_L91 hz g) (fun _ M12 gM12 => mq_d_ret gM12))
theorem md_231 {v1 : Int32} {M : mm_M} (hz : mq_Z M) : mq_D M (mf_231 v1 M) := by
  unfold mf_231
  exact mq_d_B (md_231_L4 hz mq_ob_refl) (fun _ M1 gM1 => md_231_j64 hz gM1)
theorem md_224_L132 {v1 : Int32} {v2 : Int32} {v3 : Int32} {s : Int32} {A M : mm_M} (hz : mq_Z A) (g : mq_ob A M) : mq_D A (mf_224_L132 v1 v2 v3 s M) := by
  unfold mf_224_L132
  refine mq_d_L ?_
  unfold mf_224_b132
  exact mq_1_ite (fun _ => mq_1_w hz g (mq_1_ret ⟨⟨_, rfl⟩, g⟩)) (fun _ => mq_1_ret ⟨⟨_, rfl⟩, g⟩)
theorem md_224_j189 {v1 : Int32} {v2 : Int32} {A M : mm_M} (hz : mq_Z A) (g : mq_ob A M) : mq_D A (mf_224_j189 v1 v2 M) := by
  unfold mf_224_j189
  exact mq_d_B (mq_d_c hz g (fun z => md_231 z)) (fun _ M1 gM1 => mq_d_w hz gM1 (mq_d_ret gM1))
theorem md_224_j163 {v1 : Int32} {v2 : Int32} {v3 : Int32} {A M : mm_M} (hz : mq_Z A) (g : mq_ob A M) : mq_D A (mf_224_j163 v1 v2 v3 M) := by
  unfold mf_224_j163
  exact mq_d_B (mq_d_c hz g (fun z => md_228 z)) (fun _ M1 gM1 => mq_d_w hz gM1 (md_224_j189 hz gM1))
theorem md_224 {M : mm_M} (hz : mq_Z M) : mq_D M (mf_224 M) := by
  unfold mf_224
  exact mq_d_B (mq_d_c hz mq_ob_refl (fun z => md_198 z)) (fun _ M2 gM2 => mq_d_w hz gM2 (mq_d_ret gM2))
theorem md_223_L60 {s : Int32 × Int32} {A M : mm_M} (hz : mq_Z A) (g : mq_ob A M) : mq_D A (mf_223_L60 s M) := by
  unfold mf_223_L60
  refine mq_d_L ?_
  unfold mf_223_b60
  exact mq_1_ite (fun _ => mq_1_ret ⟨⟨_, rfl⟩, g⟩) (fun _ => mq_1_w hz g (mq_1_ret ⟨⟨_, rfl⟩, g⟩))
theorem md_223_j141 {v2 : Int32} {A M : mm_M} (hz : mq_Z A) (g : mq_ob A M) : mq_D A (mf_223_j141 v2 M) := by
  unfold mf_223_j141
  exact mq_d_B (mq_d_c hz g (fun z => md_198 z)) (fun _ M2 gM2 => mq_d_w hz gM2 (mq_d_ret gM2))
theorem md_223_j42 {A M : mm_M} (hz : mq_Z A) (g : mq_ob A M) : mq_D A (mf_223_j42 M) := by
  unfold mf_223_j42
  exact mq_d_B (mq_d_c hz g (fun z => md_190 z)) (fun _ M1 gM1 => mq_d_B (md_223_L60 hz (mq_ob_pi (mq_ob_pi gM1 rfl) rfl)) (fun _ M2 gM2 => md_223_j141 hz gM2))
theorem md_223 {M : mm_M} (hz : mq_Z M) : mq_D M (mf_223 M) := by
  unfold mf_223
  exact mq_d_B (mq_d_c hz mq_ob_refl (fun z => md_192 z)) (fun _ M1 gM1 => mq_d_B (mq_d_c hz gM1 (fun z => md_192 z)) (fun _ M2 gM2 => mq_d_B (mq_d_c hz gM2 (fun z => md_192 z)) (fun _ M3 gM3 => mq_d_B (mq_d_c hz gM3 (fun z => md_191 z)) (fun _ M5 gM5 => mq_d_w hz gM5 (mq_d_B (md_223_L60 hz (mq_ob_pi (mq_ob_pi gM5 rfl) rfl)) (fun _ M13 gM13 => md_223_j141 hz gM13))))))
theorem md_232 {M : mm_M} (hz : mq_Z M) : mq_D M (mf_232 M) := by
  unfold mf_232
  exact mq_d_ite (fun _ => mq_d_B (mq_d_c hz (mq_ob_pl mq_ob_refl) (fun z => md_191 z)) (fun _ M2 gM2 => mq_d_ret (mq_ob_pl gM2))) (fun _ => mq_d_ret mq_ob_refl)
theorem md_233_j115 {v4 : Int32} {A M : mm_M} (hz : mq_Z A) (g : mq_ob A M) : mq_D A (mf_233_j115 v4 M) := by
  unfold mf_233_j115
  exact mq_d_B (mq_d_c hz g (fun z => md_232 z)) (fun _ M1 gM1 => mq_d_ret gM1)
theorem md_233 {v1 : Int32} {M : mm_M} (hz : mq_Z M) : mq_D M (mf_233 v1 M) := by
  unfold mf_233
  exact mq_d_w hz mq_ob_refl (mq_d_ret mq_ob_refl)
theorem md_240 {v1 : Int32} {v2 : Int64} {M : mm_M} (hz : mq_Z M) : mq_D M (mf_240 v1 v2 M) := by
  unfold mf_240
  exact mq_d_w hz mq_ob_refl (mq_d_ret mq_ob_refl)
theorem md_236_L5 {v1 : Int32} {s : Int64 × Int32} {A M : mm_M} (hz : mq_Z A) (g : mq_ob A M) : mq_D A (mf_236_L5 v1 s M) := by
  unfold mf_236_L5
  refine mq_d_L ?_
  unfold mf_236_b5
  exact mq_1_ite (fun _ => mq_1_w hz g (mq_1_ret ⟨⟨_, rfl⟩, g⟩)) (fun _ => mq_1_ret ⟨⟨_, rfl⟩, g⟩)
theorem md_236 {v1 : Int32} {M : mm_M} (hz : mq_Z M) : mq_D M (mf_236 v1 M) := by
  unfold mf_236
  exact mq_d_B (md_236_L5 hz mq_ob_refl) (fun _ M1 gM1 => mq_d_ret gM1)
theorem md_239 {v1 : Int32} {M : mm_M} (hz : mq_Z M) : mq_D M (mf_239 v1 M) := by
  unfold mf_239
  exact mq_d_w hz mq_ob_refl (mq_d_ret mq_ob_refl)
theorem md_237_L219 {v2 : Int64} {s : Int32} {A M : mm_M} (hz : mq_Z A) (g : mq_ob A M) : mq_D A (mf_237_L219 v2 s M) := by
  unfold mf_237_L219
  refine mq_d_L ?_
  unfold mf_237_b219
  exact mq_1_ite (fun _ => mq_1_ret ⟨⟨_, rfl⟩, g⟩) (fun _ => mq_1_w hz g (mq_1_ret ⟨⟨_, rfl⟩, g⟩))
theorem md_237_j251 {A M : mm_M} (hz : mq_Z A) (g : mq_ob A M) : mq_D A (mf_237_j251 M) := by
  unfold mf_237_j251
  exact mq_d_w hz g (mq_d_ret g)
theorem md_237_j127 {v1 : Int32} {v2 : Int64} {A M : mm_M} (hz : mq_Z A) (g : mq_ob A M) : mq_D A (mf_237_j127 v1 v2 M) := by
  unfold mf_237_j127
  exact mq_d_w hz g (mq_d_ret g)
