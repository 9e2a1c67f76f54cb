/-! HOW MANY THROWS: rules -/
def mq_N {α : Type} (t : Nat) (x : mm_O α) : Prop := ∀ q, x = some q → (∀ a, q.1 = .inl a → q.2.2.2 = t) ∧ (∀ n, q.1 = .inr n → q.2.2.2 = t + 1)
section NN
variable {α β σ ρ : Type} {t : Nat} {N : mm_M}
theorem mq_N_none : mq_N t (none : mm_O α) := fun _ h => by cases h
theorem mq_N_ret {a : α} (h : N.2.2 = t) : mq_N t (some (.inl a, N)) := fun q e => by cases e; exact ⟨fun _ _ => h, fun _ z => by cases z⟩
theorem mq_N_thr {n : Nat} (h : N.2.2 = t) : mq_N t (some (.inr n, mm_th N) : mm_O α) := fun q e => by cases e; exact ⟨fun _ z => (by cases z), fun _ _ => congrArg (· + 1) h⟩
theorem mq_N_ite {c : Prop} {i : Decidable c} {a b : mm_O α} (ha : mq_N t a) (hb : mq_N t b) : mq_N t (@ite (mm_O α) c i a b) := by
  by_cases hc : c
  · rw [if_pos hc]; exact ha
  · rw [if_neg hc]; exact hb
theorem mq_N_sm {α1 β1 : Type} {f : α1 → mm_O α} {g : β1 → mm_O α} {r : α1 ⊕ β1} (ha : ∀ a, mq_N t (f a)) (hb : ∀ b, mq_N t (g b)) : mq_N t (mm_sm f g r) := by
  cases r with
  | inl a => exact ha a
  | inr b => exact hb b
theorem mq_N_call {x : mm_O α} (hx : mq_N N.2.2 x) (h : N.2.2 = t) : mq_N t x := h ▸ hx
theorem mq_N_B {x : mm_O α} {f : α → mm_M → mm_O β} (hx : mq_N t x) (hf : ∀ a N, N.2.2 = t → mq_N t (f a N)) : mq_N t (mm_B x f) := by
  intro q e
  match x, hx, e with
  | some (.inl a, N), hx, e => exact hf a N ((hx _ rfl).1 a rfl) q e
  | some (.inr n, N), hx, e => cases e; exact ⟨fun _ z => (by cases z), fun _ _ => (hx _ rfl).2 n rfl⟩
theorem mq_N_L {step : σ → mm_M → mm_O (σ ⊕ ρ)} (hs : ∀ s N, N.2.2 = t → mq_N t (step s N)) {s : σ} (h : N.2.2 = t) : mq_N t (mm_L step s N) := by
  intro q e
  obtain ⟨n, hn⟩ := mm_L_some.mp e
  clear e
  induction n generalizing s N with
  | zero => cases hn
  | succ n ih =>
    rw [mm_it] at hn
    match hx : step s N, hn with
    | some (.inl (.inl s2), N2), hn => exact ih ((hs s N h _ hx).1 _ rfl) hn
    | some (.inl (.inr r), N2), hn => cases hn; exact ⟨fun _ _ => (hs s N h _ hx).1 _ rfl, fun _ z => (by cases z)⟩
    | some (.inr n, N2), hn => cases hn; exact ⟨fun _ z => (by cases z), fun _ _ => (hs s N h _ hx).2 _ rfl⟩
end NN
