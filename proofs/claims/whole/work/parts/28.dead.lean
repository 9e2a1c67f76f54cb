/-! WHEN IT IS WRONG: the reference goes on and changes nothing that is seen -/
def mq_obl : List (Nat × Option Nat) := [(84, some 2), (84, some 4), (84, some 5), (84, some 7), (84, some 8), (84, some 9), (84, some 10), (84, some 11), (84, some 12), (85, none), (86, none)]
def mq_ob (N N2 : mm_M) : Prop := ∀ p i, mq_ws mq_obl p i = true → N2.1 p i = N.1 p i
def mq_Z (N : mm_M) : Prop := N.1 84 7 = 1 ∧ 0 ≤ (N.1 84 5).toInt ∧ (N.1 84 5).toInt ≤ 10000 ∧ 0 ≤ (N.1 84 4).toInt ∧ (N.1 84 4).toInt ≤ 16384 ∧ 0 ≤ (N.1 84 2).toInt ∧ (N.1 84 2).toInt ≤ 10000
def mq_D {α : Type} (N : mm_M) (x : mm_O α) : Prop := mq_1 x (fun _ N2 => mq_ob N N2)
theorem mq_ob_refl {N : mm_M} : mq_ob N N := fun _ _ _ => rfl
theorem mq_ob_trans {A B C : mm_M} (h : mq_ob A B) (g : mq_ob B C) : mq_ob A C := fun p i q => (g p i q).trans (h p i q)
theorem mq_ob_pi {A B : mm_M} {p i : Nat} {v : Int32} (h : mq_ob A B) (hw : mq_ws mq_obl p i = false) : mq_ob A (mm_pi B p i v) := by
  intro q j hq
  rw [mq_p1]
  split
  · split
    · rename_i h1 h2; subst h1 h2; rw [hw] at hq; cases hq
    · exact h q j hq
  · exact h q j hq
theorem mq_ob_pl {A B : mm_M} {p i : Nat} {v : Int64} (h : mq_ob A B) : mq_ob A (mm_pl B p i v) := h
/-- a write of what is there already -/
theorem mq_ob_same {A B : mm_M} {p i : Nat} {v : Int32} (h : mq_ob A B) (hv : v = A.1 p i) : mq_ob A (mm_pi B p i v) := by
  intro q j hq
  rw [mq_p1]
  split
  · split
    · rename_i h1 h2; subst h1 h2; exact hv
    · exact h q j hq
  · exact h q j hq
theorem mq_Z_ob {A B : mm_M} (h : mq_Z A) (g : mq_ob A B) : mq_Z B := by
  unfold mq_Z
  rw [g 84 7 rfl, g 84 5 rfl, g 84 4 rfl, g 84 2 rfl]
  exact h
theorem mq_X_ob {M A B : mm_M} (h : mq_X M A) (g : mq_ob A B) : mq_X M B := by
  obtain ⟨⟨t1, t2, t3, t4⟩, ⟨u1, u2, u3, u4⟩, ⟨v1, v2, v3, v4, v5, v6⟩, w, r⟩ := h
  refine ⟨⟨?_, t2, t3, ?_⟩, ⟨?_, u2, u3, ?_⟩, ⟨?_, ?_, ?_, ?_, ?_, ?_⟩, ?_, r⟩
  · rw [g 84 2 rfl]; exact t1
  · intro j hj; rw [g 85 j rfl]; exact t4 j hj
  · rw [g 84 4 rfl]; exact u1
  · intro j hj; rw [g 86 j rfl]; exact u4 j hj
  · rw [g 84 5 rfl]; exact v1
  · rw [g 84 8 rfl]; exact v2
  · rw [g 84 9 rfl]; exact v3
  · rw [g 84 10 rfl]; exact v4
  · rw [g 84 11 rfl]; exact v5
  · rw [g 84 12 rfl]; exact v6
  · rw [g 84 7 rfl]; exact w
theorem mq_X_Z {M N : mm_M} (h : mq_X M N) : mq_Z N := by
  obtain ⟨⟨t1, t2, t3, t4⟩, ⟨u1, u2, u3, u4⟩, ⟨v1, v2⟩, w, r1, r2⟩ := h
  refine ⟨w, ?_, ?_, ?_, ?_, ?_, ?_⟩
  · rw [← v1]; exact r1
  · rw [← v1]; omega
  · rw [← u1]; exact u2
  · rw [← u1]; exact u3
  · rw [← t1]; exact t2
  · rw [← t1]; exact t3
section DD
variable {α β σ ρ : Type} {A B : mm_M}
theorem mq_xd {M : mm_M} {y : mm_O α} (h : mq_X M A) (hd : mq_Z A → mq_D A y) : mq_1 y (fun _ N => mq_X M N) := mq_1_mono (hd (mq_X_Z h)) (fun _ _ g => mq_X_ob h g)
theorem mq_d_ret {a : α} (h : mq_ob A B) : mq_D A (some (.inl a, B)) := mq_1_ret h
theorem mq_d_B {x : mm_O α} {f : α → mm_M → mm_O β} (hx : mq_D A x) (hf : ∀ a N, mq_ob A N → mq_D A (f a N)) : mq_D A (mm_B x f) := mq_1_B hx hf
theorem mq_d_ite {c : Prop} {i : Decidable c} {a b : mm_O α} (ha : c → mq_D A a) (hb : ¬ c → mq_D A b) : mq_D A (@ite (mm_O α) c i a b) := mq_1_ite ha hb
theorem mq_d_w {i : Decidable (B.1 84 7 = 0)} {a b : mm_O α} (hz : mq_Z A) (h : mq_ob A B) (hb : mq_D A b) : mq_D A (@ite (mm_O α) (B.1 84 7 = 0) i a b) := by
  rw [if_neg (by rw [h 84 7 rfl, hz.1]; decide)]; exact hb
theorem mq_d_c {x : mm_O α} (hz : mq_Z A) (h : mq_ob A B) (hx : mq_Z B → mq_D B x) : mq_D A x := mq_1_mono (hx (mq_Z_ob hz h)) (fun _ _ g => mq_ob_trans h g)
/-- a loop that ends at once -/
theorem mq_d_L {step : σ → mm_M → mm_O (σ ⊕ ρ)} {s : σ} (h : mq_1 (step s B) (fun r N => (∃ x, r = .inr x) ∧ mq_ob A N)) : mq_D A (mm_L step s B) := by
  obtain ⟨r, N, e, ⟨x, rfl⟩, g⟩ := h
  rw [mm_L_eq, e]
  exact ⟨x, N, rfl, g⟩
/-- a loop that counts -/
theorem mq_d_Lc {step : σ → mm_M → mm_O (σ ⊕ ρ)} (I : σ → Prop) (m : σ → Nat) (hs : ∀ s N, I s → mq_ob A N → mq_1 (step s N) (fun r N2 => ((∃ s2, r = .inl s2 ∧ I s2 ∧ m s2 < m s) ∨ (∃ x, r = .inr x)) ∧ mq_ob A N2)) {s : σ} (hI : I s) (h : mq_ob A B) : mq_D A (mm_L step s B) := by
  refine mq_1_L (I := fun s N => I s ∧ mq_ob A N) (m := fun s _ => m s) ?_ ⟨hI, h⟩
  rintro s N ⟨hI, h⟩
  refine mq_1_mono (hs s N hI h) ?_
  rintro r N2 ⟨⟨s2, rfl, h1, h2⟩ | ⟨x, rfl⟩, g⟩
  · exact .inl ⟨s2, rfl, ⟨h1, g⟩, h2⟩
  · exact .inr ⟨x, rfl, g⟩
end DD
theorem md_190 {N : mm_M} (h : mq_Z N) : mq_D N (mf_190 N) := mq_d_ret (mq_ob_same mq_ob_refl h.1.symm)
theorem md_191 {N : mm_M} (h : mq_Z N) : mq_D N (mf_191 N) := by
  unfold mf_191 mf_191_j29
  refine mq_d_w h mq_ob_refl ?_
  exact mq_d_B (md_190 h) (fun _ _ g => mq_d_ret g)
theorem md_192 {N : mm_M} {v : Int32} (h : mq_Z N) : mq_D N (mf_192 v N) := by
  unfold mf_192
  exact mq_d_B (md_191 h) (fun _ _ g => mq_d_w h g (mq_d_ret g))
theorem md_193 {N : mm_M} {v : Int32} (h : mq_Z N) : mq_D N (mf_193 v N) := by
  unfold mf_193
  refine mq_d_B ?_ (fun _ _ g => mq_d_ret g)
  unfold mf_193_L5
  refine mq_d_Lc (I := fun _ => True) (m := fun s => (v.toInt - s.2.toInt).toNat) ?_ trivial mq_ob_refl
  rintro ⟨x, k⟩ N _ g
  unfold mf_193_b5
  dsimp only
  refine mq_1_ite (fun c => ?_) (fun c => ?_)
  · refine mq_1_B (mq_d_c h g md_191) (fun a N2 g => mq_1_ret ⟨.inl ⟨_, rfl, trivial, ?_⟩, g⟩)
    have := mq_hi v
    rw [Int32.lt_iff_toInt_lt] at c
    dsimp only
    rw [mi_add]; simp only [Int32.reduceToInt]; have := mq_lo k; omega
  · exact mq_1_ret ⟨.inr ⟨_, rfl⟩, g⟩
theorem md_194 {N : mm_M} {v : Int32} (h : mq_Z N) : mq_D N (mf_194 v N) := by
  unfold mf_194 mf_194_j21
  exact mq_d_w h mq_ob_refl (mq_d_w h mq_ob_refl (mq_d_ret mq_ob_refl))
theorem md_195 {N : mm_M} {v : Int64} (h : mq_Z N) : mq_D N (mf_195 v N) := by
  unfold mf_195 mf_195_L2
  refine mq_d_B (mq_d_L ?_) (fun _ _ g => mq_d_ret g)
  unfold mf_195_b2
  refine mq_1_ite (fun _ => ?_) (fun _ => mq_1_ret ⟨⟨_, rfl⟩, mq_ob_refl⟩)
  rw [if_neg (by rw [h.1]; decide)]
  exact mq_1_ret ⟨⟨_, rfl⟩, mq_ob_refl⟩
theorem md_196 {N : mm_M} {v : Int32} {d : Int64} {f : Int32} (h : mq_Z N) : mq_D N (mf_196 v d f N) := by
  unfold mf_196 mf_196_j30
  exact mq_d_w h mq_ob_refl (mq_d_w h mq_ob_refl (mq_d_ret mq_ob_refl))
theorem md_197j {N0 N : mm_M} (h : mq_Z N0) (g : mq_ob N0 N) : mq_D N0 (mf_197_j21 N) := by
  unfold mf_197_j21
  exact mq_d_w h g (mq_d_ret g)
theorem md_197 {N : mm_M} (h : mq_Z N) : mq_D N (mf_197 N) := by
  unfold mf_197
  refine mq_d_ite (fun _ => ?_) (fun _ => md_197j h mq_ob_refl)
  exact mq_d_B (md_191 h) (fun _ _ g => md_197j h (mq_ob_pi (mq_ob_pi g rfl) rfl))
theorem md_198 {N : mm_M} {v : Int32} (h : mq_Z N) : mq_D N (mf_198 v N) := by
  unfold mf_198 mf_198_L5
  refine mq_d_B (mq_d_L ?_) (fun _ _ g => mq_d_ret g)
  unfold mf_198_b5
  refine mq_1_ite (fun _ => ?_) (fun _ => mq_1_ret ⟨⟨_, rfl⟩, mq_ob_refl⟩)
  rw [if_neg (by rw [h.1]; decide)]
  exact mq_1_ret ⟨⟨_, rfl⟩, mq_ob_refl⟩
