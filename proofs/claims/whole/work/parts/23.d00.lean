/-! one of two -/
def mm_sm {α β : Type} {γ : Sort _} (f : α → γ) (g : β → γ) (r : α ⊕ β) : γ := match r with
  | .inl a => f a
  | .inr b => g b
