/-! WHAT IS KEPT; ONE RUN, TWO RUNS -/
def mq_ws (l : List (Nat × Option Nat)) (p i : Nat) : Bool := l.any (fun e => e.1 == p && (match e.2 with | none => true | some j => j == i))
def mq_sub (a b : List (Nat × Option Nat)) : Bool := a.all (fun e => b.any (fun f => f.1 == e.1 && (match f.2 with | none => true | some j => e.2 == some j)))
def mq_kp (l : List (Nat × Option Nat)) (M N : mm_M) : Prop := ∀ p i, mq_ws l p i = false → N.1 p i = M.1 p i ∧ N.2.1 p i = M.2.1 p i
def mq_K {α : Type} (l : List (Nat × Option Nat)) (M : mm_M) (x : mm_O α) : Prop := ∀ q, x = some q → mq_kp l M q.2
theorem mq_sub_ws {a b : List (Nat × Option Nat)} (h : mq_sub a b = true) {p i : Nat} (hb : mq_ws b p i = false) : mq_ws a p i = false := by
  rw [Bool.eq_false_iff] at hb ⊢
  intro ha
  apply hb
  simp only [mq_ws, List.any_eq_true, Bool.and_eq_true, beq_iff_eq] at ha ⊢
  obtain ⟨e, he, hp, hi⟩ := ha
  simp only [mq_sub, List.all_eq_true] at h
  have q := h e he
  simp only [List.any_eq_true, Bool.and_eq_true, beq_iff_eq] at q
  obtain ⟨f, hf, hfp, hfi⟩ := q
  refine ⟨f, hf, hfp.trans hp, ?_⟩
  obtain ⟨fp, fi⟩ := f
  cases fi with
  | none => rfl
  | some j =>
    simp only [beq_iff_eq] at hfi ⊢
    obtain ⟨ep, ei⟩ := e
    simp only at hfi hi
    subst hfi
    simpa using hi
theorem mq_kp_refl {l : List (Nat × Option Nat)} {M : mm_M} : mq_kp l M M := fun _ _ _ => ⟨rfl, rfl⟩
theorem mq_kp_trans {l : List (Nat × Option Nat)} {M N O : mm_M} (h : mq_kp l M N) (g : mq_kp l N O) : mq_kp l M O := fun p i q => ⟨(g p i q).1.trans (h p i q).1, (g p i q).2.trans (h p i q).2⟩
theorem mq_kp_sub {a b : List (Nat × Option Nat)} {M N : mm_M} (h : mq_kp a M N) (hs : mq_sub a b = true) : mq_kp b M N := fun p i q => h p i (mq_sub_ws hs q)
theorem mq_kp_pi {l : List (Nat × Option Nat)} {M N : mm_M} {p i : Nat} {v : Int32} (h : mq_kp l M N) (hw : mq_ws l p i = true) : mq_kp l M (mm_pi N p i v) := by
  intro q j hq
  refine ⟨?_, (h q j hq).2⟩
  show (if q = p then (if j = i then v else N.1 q j) else N.1 q j) = _
  split
  · split
    · rename_i h1 h2; subst h1 h2; rw [hw] at hq; cases hq
    · exact (h q j hq).1
  · exact (h q j hq).1
theorem mq_kp_pl {l : List (Nat × Option Nat)} {M N : mm_M} {p i : Nat} {v : Int64} (h : mq_kp l M N) (hw : mq_ws l p i = true) : mq_kp l M (mm_pl N p i v) := by
  intro q j hq
  refine ⟨(h q j hq).1, ?_⟩
  show (if q = p then (if j = i then v else N.2.1 q j) else N.2.1 q j) = _
  split
  · split
    · rename_i h1 h2; subst h1 h2; rw [hw] at hq; cases hq
    · exact (h q j hq).2
  · exact (h q j hq).2
theorem mq_kp_th {l : List (Nat × Option Nat)} {M N : mm_M} (h : mq_kp l M N) : mq_kp l M (mm_th N) := fun p i q => h p i q
theorem mq_ws_arr {l : List (Nat × Option Nat)} {p : Nat} (h : l.any (fun e => e.1 == p && e.2 == none) = true) (i : Nat) : mq_ws l p i = true := by
  simp only [mq_ws, List.any_eq_true, Bool.and_eq_true, beq_iff_eq] at h ⊢
  obtain ⟨e, he, hp, hn⟩ := h
  exact ⟨e, he, hp, by rw [hn]⟩
theorem mq_kp_cp {l : List (Nat × Option Nat)} {M N : mm_M} {s d : Nat} {a b c : Int32} (h : mq_kp l M N) (hw : l.any (fun e => e.1 == d && e.2 == none) = true) : mq_kp l M (mm_cpM N s a d b c) := by
  intro q j hq
  refine ⟨?_, (h q j hq).2⟩
  show (if q = d then va_cpy (N.1 s) (N.1 d) a.toNatClampNeg b.toNatClampNeg c.toNatClampNeg j else N.1 q j) = _
  split
  · rename_i h1; subst h1; rw [mq_ws_arr hw j] at hq; cases hq
  · exact (h q j hq).1
section KK
variable {α β σ ρ : Type} {l l2 : List (Nat × Option Nat)} {M N : mm_M}
theorem mq_K_none : mq_K l M (none : mm_O α) := fun _ h => by cases h
theorem mq_K_ret {a : α ⊕ Nat} (h : mq_kp l M N) : mq_K l M (some (a, N)) := fun q e => by cases e; exact h
theorem mq_K_ite {c : Prop} {i : Decidable c} {a b : mm_O α} (ha : c → mq_K l M a) (hb : ¬ c → mq_K l M b) : mq_K l M (@ite (mm_O α) c i a b) := by
  intro q e
  by_cases hc : c
  · rw [if_pos hc] at e; exact ha hc q e
  · rw [if_neg hc] at e; exact hb hc q e
theorem mq_K_sm {α1 β1 : Type} {f : α1 → mm_O α} {g : β1 → mm_O α} {r : α1 ⊕ β1} (ha : ∀ a, mq_K l M (f a)) (hb : ∀ b, mq_K l M (g b)) : mq_K l M (mm_sm f g r) := by
  cases r with
  | inl a => exact ha a
  | inr b => exact hb b
theorem mq_K_B {x : mm_O α} {f : α → mm_M → mm_O β} (hx : mq_K l M x) (hf : ∀ a N, mq_kp l M N → mq_K l M (f a N)) : mq_K l M (mm_B x f) := by
  intro q e
  match x, hx, e with
  | some (.inl a, N), hx, e => exact hf a N (hx _ rfl) q e
  | some (.inr n, N), hx, e => cases e; exact hx _ rfl
theorem mq_K_Bc {x : mm_O α} {f : α → mm_M → mm_O β} {X : Nat} {c : mm_M → mm_O β} (hx : mq_K l M x) (hf : ∀ a N, mq_kp l M N → mq_K l M (f a N)) (hc : ∀ N, mq_kp l M N → mq_K l M (c N)) : mq_K l M (mm_Bc x f X c) := by
  intro q e
  match x, hx, e with
  | some (.inl a, N), hx, e => exact hf a N (hx _ rfl) q e
  | some (.inr n, N), hx, e =>
    simp only [mm_Bc] at e
    split at e
    · exact hc N (hx _ rfl) q e
    · cases e
theorem mq_K_L {step : σ → mm_M → mm_O (σ ⊕ ρ)} (hs : ∀ s N, mq_kp l M N → mq_K l M (step s N)) {s : σ} (h : mq_kp l M N) : mq_K l M (mm_L step s N) := by
  intro q e
  obtain ⟨n, hn⟩ := mm_L_some.mp e
  clear e
  induction n generalizing s N with
  | zero => cases hn
  | succ n ih =>
    rw [mm_it] at hn
    match hx : step s N, hn with
    | some (.inl (.inl s2), N2), hn => exact ih (hs s N h _ hx) hn
    | some (.inl (.inr r), N2), hn => cases hn; exact hs s N h _ hx
    | some (.inr n, N2), hn => cases hn; exact hs s N h _ hx
theorem mq_K_call {x : mm_O α} (hx : mq_K l2 N x) (h : mq_kp l M N) (hs : mq_sub l2 l = true) : mq_K l M x := fun q e => mq_kp_trans h (mq_kp_sub (hx q e) hs)
end KK
theorem mq_tab6 {P : Nat → Prop} {t : Nat} (h : t < 6) (h0 : P 50) (h1 : P 55) (h2 : P 60) (h3 : P 65) (h4 : P 70) (h5 : P 75) : P (mm_tab t) := by
  match t, h with
  | 0, _ => exact h0
  | 1, _ => exact h1
  | 2, _ => exact h2
  | 3, _ => exact h3
  | 4, _ => exact h4
  | 5, _ => exact h5
def mq_1 {α : Type} (x : mm_O α) (Q : α → mm_M → Prop) : Prop := ∃ a M, x = some (.inl a, M) ∧ Q a M
def mq_2 {α β : Type} (E : mm_M → β → mm_M → Prop) (x : mm_O α) (y : mm_O β) (Q : α → mm_M → β → mm_M → Prop) : Prop := ∃ b N, y = some (.inl b, N) ∧ ((∃ a M, x = some (.inl a, M) ∧ Q a M b N) ∨ (∃ M, x = some (.inr 0, M) ∧ E M b N))
section R1
variable {α β σ ρ : Type} {P Q : α → mm_M → Prop} {R : β → mm_M → Prop}
theorem mq_1_ret {a : α} {M : mm_M} (h : Q a M) : mq_1 (some (.inl a, M)) Q := ⟨a, M, rfl, h⟩
theorem mq_1_mono {x : mm_O α} (h : mq_1 x P) (hs : ∀ a M, P a M → Q a M) : mq_1 x Q := by
  obtain ⟨a, M, e, q⟩ := h; exact ⟨a, M, e, hs a M q⟩
theorem mq_1_B {x : mm_O α} {f : α → mm_M → mm_O β} (hx : mq_1 x P) (hf : ∀ a M, P a M → mq_1 (f a M) R) : mq_1 (mm_B x f) R := by
  obtain ⟨a, M, e, q⟩ := hx; rw [e]; exact hf a M q
theorem mq_1_ite {c : Prop} {i : Decidable c} {a b : mm_O α} (ha : c → mq_1 a Q) (hb : ¬ c → mq_1 b Q) : mq_1 (@ite (mm_O α) c i a b) Q := by
  by_cases hc : c
  · rw [if_pos hc]; exact ha hc
  · rw [if_neg hc]; exact hb hc
theorem mq_1_K {x : mm_O α} {l : List (Nat × Option Nat)} {M0 : mm_M} (h : mq_1 x Q) (hk : mq_K l M0 x) : mq_1 x (fun a M => Q a M ∧ mq_kp l M0 M) := by
  obtain ⟨a, M, e, q⟩ := h; exact ⟨a, M, e, q, hk _ e⟩
theorem mq_1_L {step : σ → mm_M → mm_O (σ ⊕ ρ)} {Q : ρ → mm_M → Prop} (I : σ → mm_M → Prop) (m : σ → mm_M → Nat) (hs : ∀ s M, I s M → mq_1 (step s M) (fun r N => (∃ s2, r = .inl s2 ∧ I s2 N ∧ m s2 N < m s M) ∨ (∃ x, r = .inr x ∧ Q x N))) {s : σ} {M : mm_M} (h : I s M) : mq_1 (mm_L step s M) Q := by
  generalize hn : m s M = n
  induction n using Nat.strongRecOn generalizing s M with
  | ind n ih =>
    obtain ⟨r, N, e, q⟩ := hs s M h
    rw [mm_L_eq, e]
    rcases q with ⟨s2, rfl, hI, hm⟩ | ⟨x, rfl, hQ⟩
    · exact ih _ (by omega) hI rfl
    · exact ⟨x, N, rfl, hQ⟩
end R1
section R2
variable {α β γ δ : Type} {E : mm_M → β → mm_M → Prop} {Q P : α → mm_M → β → mm_M → Prop}
theorem mq_2_ret {a : α} {M : mm_M} {b : β} {N : mm_M} (h : Q a M b N) : mq_2 E (some (.inl a, M)) (some (.inl b, N)) Q := ⟨b, N, rfl, .inl ⟨a, M, rfl, h⟩⟩
theorem mq_2_thr {M : mm_M} {b : β} {N : mm_M} (h : E M b N) : mq_2 E (some (.inr 0, M)) (some (.inl b, N)) Q := ⟨b, N, rfl, .inr ⟨M, rfl, h⟩⟩
theorem mq_2_mono {E2 : mm_M → β → mm_M → Prop} {x : mm_O α} {y : mm_O β} (h : mq_2 E2 x y P) (hs : ∀ a M b N, P a M b N → Q a M b N) (he : ∀ M b N, E2 M b N → E M b N) : mq_2 E x y Q := by
  obtain ⟨b, N, e, q⟩ := h
  refine ⟨b, N, e, ?_⟩
  rcases q with ⟨a, M, e1, q⟩ | ⟨M, e1, q⟩
  · exact .inl ⟨a, M, e1, hs _ _ _ _ q⟩
  · exact .inr ⟨M, e1, he _ _ _ q⟩
theorem mq_2_B {E2 : mm_M → δ → mm_M → Prop} {R : γ → mm_M → δ → mm_M → Prop} {x : mm_O α} {y : mm_O β} {f : α → mm_M → mm_O γ} {g : β → mm_M → mm_O δ} (h : mq_2 E x y P) (hs : ∀ a M b N, P a M b N → mq_2 E2 (f a M) (g b N) R) (he : ∀ M b N, E M b N → mq_1 (g b N) (fun c N2 => E2 M c N2)) : mq_2 E2 (mm_B x f) (mm_B y g) R := by
  obtain ⟨b, N, e, q⟩ := h
  rw [e]
  rcases q with ⟨a, M, e1, q⟩ | ⟨M, e1, q⟩
  · rw [e1]; exact hs _ _ _ _ q
  · rw [e1]
    obtain ⟨c, N2, e2, q2⟩ := he _ _ _ q
    exact ⟨c, N2, e2, .inr ⟨M, rfl, q2⟩⟩
theorem mq_2_Bl {x : mm_O γ} {y : mm_O β} {f : γ → mm_M → mm_O α} {P : γ → mm_M → Prop} (h : mq_1 x P) (hs : ∀ a M, P a M → mq_2 E (f a M) y Q) : mq_2 E (mm_B x f) y Q := by
  obtain ⟨a, M, e, q⟩ := h; rw [e]; exact hs _ _ q
theorem mq_2_Br {x : mm_O α} {y : mm_O γ} {g : γ → mm_M → mm_O β} {P : γ → mm_M → Prop} (h : mq_1 y P) (hs : ∀ b N, P b N → mq_2 E x (g b N) Q) : mq_2 E x (mm_B y g) Q := by
  obtain ⟨a, M, e, q⟩ := h; rw [e]; exact hs _ _ q
theorem mq_2_il {c : Prop} {i : Decidable c} {a b : mm_O α} {y : mm_O β} (ha : c → mq_2 E a y Q) (hb : ¬ c → mq_2 E b y Q) : mq_2 E (@ite (mm_O α) c i a b) y Q := by
  by_cases hc : c
  · rw [if_pos hc]; exact ha hc
  · rw [if_neg hc]; exact hb hc
theorem mq_2_ir {c : Prop} {i : Decidable c} {x : mm_O α} {a b : mm_O β} (ha : c → mq_2 E x a Q) (hb : ¬ c → mq_2 E x b Q) : mq_2 E x (@ite (mm_O β) c i a b) Q := by
  by_cases hc : c
  · rw [if_pos hc]; exact ha hc
  · rw [if_neg hc]; exact hb hc
theorem mq_2_K {x : mm_O α} {y : mm_O β} {l l2 : List (Nat × Option Nat)} {M0 N0 : mm_M} (h : mq_2 E x y Q) (hk : mq_K l M0 x) (hk2 : mq_K l2 N0 y) : mq_2 (fun M b N => E M b N ∧ mq_kp l M0 M ∧ mq_kp l2 N0 N) x y (fun a M b N => Q a M b N ∧ mq_kp l M0 M ∧ mq_kp l2 N0 N) := by
  obtain ⟨b, N, e, q⟩ := h
  refine ⟨b, N, e, ?_⟩
  rcases q with ⟨a, M, e1, q⟩ | ⟨M, e1, q⟩
  · exact .inl ⟨a, M, e1, q, hk _ e1, hk2 _ e⟩
  · exact .inr ⟨M, e1, q, hk _ e1, hk2 _ e⟩
theorem mq_2_L {σ τ : Type} {s1 : σ → mm_M → mm_O (σ ⊕ α)} {s2 : τ → mm_M → mm_O (τ ⊕ β)} (I : σ → mm_M → τ → mm_M → Prop) (J : mm_M → τ → mm_M → Prop) (m : σ → mm_M → Nat) (hs : ∀ a M b N, I a M b N → mq_2 (fun M t N => (∃ b, t = .inl b ∧ J M b N) ∨ (∃ v, t = .inr v ∧ E M v N)) (s1 a M) (s2 b N) (fun r M2 t N2 => (∃ a2 b2, r = .inl a2 ∧ t = .inl b2 ∧ I a2 M2 b2 N2 ∧ m a2 M2 < m a M) ∨ (∃ u v, r = .inr u ∧ t = .inr v ∧ Q u M2 v N2))) (hd : ∀ M b N, J M b N → mq_1 (mm_L s2 b N) (fun v N2 => E M v N2)) {a : σ} {M : mm_M} {b : τ} {N : mm_M} (h : I a M b N) : mq_2 E (mm_L s1 a M) (mm_L s2 b N) Q := by
  generalize hn : m a M = n
  induction n using Nat.strongRecOn generalizing a M b N with
  | ind n ih =>
    obtain ⟨t, N2, e, q⟩ := hs a M b N h
    rw [mm_L_eq s1, mm_L_eq s2, e]
    rcases q with ⟨r, M2, e1, q⟩ | ⟨M2, e1, q⟩
    · rw [e1]
      rcases q with ⟨a2, b2, rfl, rfl, hI, hm⟩ | ⟨u, v, rfl, rfl, hQ⟩
      · exact ih _ (by omega) hI rfl
      · exact ⟨v, N2, rfl, .inl ⟨u, M2, rfl, hQ⟩⟩
    · rw [e1]
      rcases q with ⟨b2, rfl, hJ⟩ | ⟨v, rfl, hE⟩
      · obtain ⟨v, N3, e3, hE⟩ := hd _ _ _ hJ
        exact ⟨v, N3, e3, .inr ⟨M2, rfl, hE⟩⟩
      · exact ⟨v, N2, rfl, .inr ⟨M2, rfl, hE⟩⟩
end R2
