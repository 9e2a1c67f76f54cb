/-! RULES: the small machine by rules; the shapes (mm_O) that the methods' meanings have -/
def mm_shl (x y : Int32) : Int32 := x <<< (y &&& 31)
def mm_shr (x y : Int32) : Int32 := x >>> (y &&& 31)
def mm_ush (x y : Int32) : Int32 := (x.toUInt32 >>> (y.toUInt32 &&& Int32.toUInt32 31)).toInt32
def mm_lshl (x : Int64) (y : Int32) : Int64 := x <<< (y.toInt64 &&& 63)
def mm_lshr (x : Int64) (y : Int32) : Int64 := x >>> (y.toInt64 &&& 63)
def mm_lush (x : Int64) (y : Int32) : Int64 := (x.toUInt64 >>> (y.toInt64.toUInt64 &&& Int64.toUInt64 63)).toInt64
def mm_rem (x y : Int32) : Int32 := x - x / y * y
def mm_min (x y : Int32) : Int32 := if y < x then y else x
def mm_max (x y : Int32) : Int32 := if x < y then y else x
def mm_th (M : mm_M) : mm_M := (M.1, M.2.1, M.2.2 + 1)
def mm_cpok (sp dp n : Int32) (n0 n1 : Nat) : Bool := !(decide (sp < 0)) && !(decide (dp < 0)) && !(decide (n < 0)) && decide (sp.toNatClampNeg + n.toNatClampNeg ≤ n0) && decide (dp.toNatClampNeg + n.toNatClampNeg ≤ n1)
def mm_cpM (M : mm_M) (sr : Nat) (sp : Int32) (d : Nat) (dp n : Int32) : mm_M := (fun q j => if q = d then va_cpy (M.1 sr) (M.1 d) sp.toNatClampNeg dp.toNatClampNeg n.toNatClampNeg j else M.1 q j, M.2.1, M.2.2)
abbrev mm_E : Type := mm_R × mm_M
/-- what a piece of code comes to: nothing (it is stuck), a value, a throw -/
abbrev mm_O (α : Type) : Type := Option ((α ⊕ Nat) × mm_M)
def mm_B {α β : Type} (g : mm_O α) (f : α → mm_M → mm_O β) : mm_O β := match g with
  | none => none
  | some (.inl a, M) => f a M
  | some (.inr x, M) => some (.inr x, M)
def mm_Bc {α β : Type} (g : mm_O α) (f : α → mm_M → mm_O β) (X : Nat) (c : mm_M → mm_O β) : mm_O β := match g with
  | none => none
  | some (.inl a, M) => f a M
  | some (.inr x, M) => if x = X then c M else none
def mm_nx {σ ρ : Type} (k : σ → mm_M → mm_O ρ) (a : σ ⊕ ρ) (M : mm_M) : mm_O ρ := match a with
  | .inl s => k s M
  | .inr r => some (.inl r, M)
def mm_it {σ ρ : Type} (step : σ → mm_M → mm_O (σ ⊕ ρ)) : Nat → σ → mm_M → mm_O ρ
  | 0, _, _ => none
  | n + 1, s, M => mm_B (step s M) (mm_nx (mm_it step n))
theorem mm_it_mono {σ ρ : Type} {step : σ → mm_M → mm_O (σ ⊕ ρ)} : ∀ (n : Nat) (s : σ) (M : mm_M) (q : (ρ ⊕ Nat) × mm_M), mm_it step n s M = some q → mm_it step (n + 1) s M = some q
  | 0, _, _, _, h => by cases h
  | n + 1, s, M, q, h => by
    rw [mm_it] at h ⊢
    cases hs : step s M with
    | none => rw [hs] at h; cases h
    | some a =>
      rw [hs] at h
      match a, h with
      | (.inl (.inl s2), M2), h => exact mm_it_mono n s2 M2 q h
      | (.inl (.inr r), M2), h => exact h
      | (.inr x, M2), h => exact h
theorem mm_it_le {σ ρ : Type} {step : σ → mm_M → mm_O (σ ⊕ ρ)} {n m : Nat} (hn : n ≤ m) {s : σ} {M : mm_M} {q : (ρ ⊕ Nat) × mm_M} (h : mm_it step n s M = some q) : mm_it step m s M = some q := by
  induction hn with
  | refl => exact h
  | step _ ih => exact mm_it_mono _ _ _ _ ih
/-- a loop -/
noncomputable def mm_L {σ ρ : Type} (step : σ → mm_M → mm_O (σ ⊕ ρ)) (s : σ) (M : mm_M) : mm_O ρ := @dite (mm_O ρ) (∃ n q, mm_it step n s M = some q) (Classical.propDecidable _) (fun h => mm_it step (Classical.choose h) s M) (fun _ => none)
theorem mm_L_some {σ ρ : Type} {step : σ → mm_M → mm_O (σ ⊕ ρ)} {s : σ} {M : mm_M} {q : (ρ ⊕ Nat) × mm_M} : mm_L step s M = some q ↔ ∃ n, mm_it step n s M = some q := by
  constructor
  · intro h
    unfold mm_L at h
    split at h
    · exact ⟨_, h⟩
    · cases h
  · rintro ⟨n, hn⟩
    unfold mm_L
    split
    · rename_i hx
      obtain ⟨q2, h2⟩ := Classical.choose_spec hx
      have a := mm_it_le (Nat.le_max_left n (Classical.choose hx)) hn
      have b := mm_it_le (Nat.le_max_right n (Classical.choose hx)) h2
      rw [h2, ← a, b]
    · rename_i hx; exact absurd ⟨n, q, hn⟩ hx
theorem mm_L_eq {σ ρ : Type} (step : σ → mm_M → mm_O (σ ⊕ ρ)) (s : σ) (M : mm_M) : mm_L step s M = mm_B (step s M) (mm_nx (mm_L step)) := by
  apply Option.ext
  intro q
  rw [mm_L_some]
  constructor
  · rintro ⟨n, hn⟩
    cases n with
    | zero => cases hn
    | succ n =>
      rw [mm_it] at hn
      cases hs : step s M with
      | none => rw [hs] at hn; cases hn
      | some a =>
        rw [hs] at hn
        match a, hn with
        | (.inl (.inl s2), M2), hn => exact mm_L_some.mpr ⟨n, hn⟩
        | (.inl (.inr r), M2), hn => exact hn
        | (.inr x, M2), hn => exact hn
  · intro h
    cases hs : step s M with
    | none => rw [hs] at h; cases h
    | some a =>
      rw [hs] at h
      match a, hs, h with
      | (.inl (.inl s2), M2), hs, h =>
        obtain ⟨n, hn⟩ := mm_L_some.mp h
        exact ⟨n + 1, by rw [mm_it, hs]; exact hn⟩
      | (.inl (.inr r), M2), hs, h => exact ⟨1, by rw [mm_it, hs]; exact h⟩
      | (.inr x, M2), hs, h => exact ⟨1, by rw [mm_it, hs]; exact h⟩
/-- what is owed behind a piece -/
def mm_A {α : Type} (K : α → mm_M → mm_E → Prop) (q : (α ⊕ Nat) × mm_M) (o : mm_E) : Prop := match q with
  | (.inl a, M) => K a M o
  | (.inr x, M) => o = (.inr x, M)
def mm_Kr {α : Type} (v : α → Option Value) : α → mm_M → mm_E → Prop := fun a M o => o = (.inl (v a), M)
def mm_K2 {σ ρ : Type} (P : σ → mm_M → mm_E → Prop) (X : ρ → mm_M → mm_E → Prop) : σ ⊕ ρ → mm_M → mm_E → Prop := fun a M o => match a with
  | .inl s => P s M o
  | .inr r => X r M o
def mm_wv : Unit → Option Value := fun _ => none
def mm_wi : Int32 → Option Value := fun v => some (.int v)
def mm_wl : Int64 → Option Value := fun v => some (.long v)
theorem mm_L_snd {σ ρ : Type} {step : σ → mm_M → mm_O (σ ⊕ ρ)} {P : σ → mm_M → mm_E → Prop} {X : ρ → mm_M → mm_E → Prop} {o : mm_E} (hs : ∀ s M q, step s M = some q → mm_A (mm_K2 P X) q o → P s M o) {s : σ} {M : mm_M} {q : (ρ ⊕ Nat) × mm_M} (h : mm_L step s M = some q) (hA : mm_A X q o) : P s M o := by
  obtain ⟨n, hn⟩ := mm_L_some.mp h
  clear h
  induction n generalizing s M with
  | zero => cases hn
  | succ n ih =>
    rw [mm_it] at hn
    cases hst : step s M with
    | none => rw [hst] at hn; cases hn
    | some a =>
      rw [hst] at hn
      match a, hst, hn with
      | (.inl (.inl s2), M2), hst, hn => exact hs s M _ hst (ih hn)
      | (.inl (.inr r), M2), hst, hn => cases hn; exact hs s M _ hst hA
      | (.inr x, M2), hst, hn => cases hn; exact hs s M _ hst hA
theorem mm_B_inv {α β : Type} {g : mm_O α} {f : α → mm_M → mm_O β} {q : (β ⊕ Nat) × mm_M} (h : mm_B g f = some q) : (∃ a M, g = some (.inl a, M) ∧ f a M = some q) ∨ (∃ x M, g = some (.inr x, M) ∧ q = (.inr x, M)) := by
  match g, h with
  | some (.inl a, M), h => exact Or.inl ⟨a, M, rfl, h⟩
  | some (.inr x, M), h => cases h; exact Or.inr ⟨x, M, rfl, rfl⟩
theorem mm_Bc_inv {α β : Type} {g : mm_O α} {f : α → mm_M → mm_O β} {X : Nat} {c : mm_M → mm_O β} {q : (β ⊕ Nat) × mm_M} (h : mm_Bc g f X c = some q) : (∃ a M, g = some (.inl a, M) ∧ f a M = some q) ∨ (∃ M, g = some (.inr X, M) ∧ c M = some q) := by
  match g, h with
  | some (.inl a, M), h => exact Or.inl ⟨a, M, rfl, h⟩
  | some (.inr x, M), h =>
    by_cases hx : x = X
    · subst hx; simp only [mm_Bc, if_true] at h; exact Or.inr ⟨M, rfl, h⟩
    · simp only [mm_Bc, if_neg hx] at h; cases h
/-- a loop, and what stands behind it -/
theorem mm_R_loop {σ ρ β : Type} {step : σ → mm_M → mm_O (σ ⊕ ρ)} {P : σ → mm_M → mm_E → Prop} {X : ρ → mm_M → mm_E → Prop} {K : β → mm_M → mm_E → Prop} {F : ρ → mm_M → mm_O β} {o : mm_E} {s : σ} {M : mm_M} {q : (β ⊕ Nat) × mm_M} (h : mm_B (mm_L step s M) F = some q) (hA : mm_A K q o) (hs : ∀ s M q, step s M = some q → mm_A (mm_K2 P X) q o → P s M o) (hx : ∀ r M2, F r M2 = some q → X r M2 o) : P s M o := by
  rcases mm_B_inv h with ⟨r, M2, h1, h2⟩ | ⟨x, M2, h1, rfl⟩
  · exact mm_L_snd hs h1 (hx r M2 h2)
  · exact mm_L_snd hs h1 hA
theorem mm_gd {α : Type} {c : Prop} [Decidable c] {a : Option α} {q : α} (h : (if c then a else none) = some q) : c ∧ a = some q := by
  split at h
  · rename_i hc; exact ⟨hc, h⟩
  · cases h
theorem mm_d1 {n d : Nat} (h : n + 1 ≤ d) : ∃ e, d = e + 1 := ⟨d - 1, by omega⟩

/-- a place of a call, with nothing else that the instruction may be -/
def mm_site (L : Nat) (xs : Nat → Int32) (k : Nat) (S : mm_S) : Option (Nat × List Value × List Value) := match mm_look (mm_cd k) S.1 with
  | none => none
  | some (ins, len) => match mm_pure ins S.1 len S.2.1 S.2.2.1 with
    | some _ => none
    | none => match mm_heap (mm_own k) L xs ins S.1 S.2.2.1 S.2.2.2 with
      | some _ => none
      | none => match mm_swi ins S.1 S.2.2.1 with
        | some _ => none
        | none => match mm_ret k ins S.2.2.1 with
          | some _ => none
          | none => match mm_intr (mm_own k) ins S.2.2.1 S.2.2.2 with
            | some _ => none
            | none => match mm_thr k S.1 with
              | some _ => none
              | none => mm_cal k ins S.2.2.1
theorem mm_site_ok {L : Nat} {xs : Nat → Int32} {k pc : Nat} {lo : List (Option Value)} {st : List Value} {M : mm_M} {t : Nat × List Value × List Value} (hs : mm_site L xs k (pc, lo, st, M) = some t) : ∃ ins len, mm_look (mm_cd k) pc = some (ins, len) ∧ mm_pure ins pc len lo st = none ∧ mm_heap (mm_own k) L xs ins pc st M = none ∧ mm_swi ins pc st = none ∧ mm_ret k ins st = none ∧ mm_intr (mm_own k) ins st M = none ∧ mm_thr k pc = none ∧ mm_cal k ins st = some t := by
  unfold mm_site at hs
  dsimp only at hs
  split at hs
  · cases hs
  · rename_i ins len h1
    split at hs
    · cases hs
    · rename_i h2
      split at hs
      · cases hs
      · rename_i h3
        split at hs
        · cases hs
        · rename_i h4
          split at hs
          · cases hs
          · rename_i h5
            split at hs
            · cases hs
            · rename_i h6
              split at hs
              · cases hs
              · rename_i h7
                exact ⟨ins, len, h1, h2, h3, h4, h5, h6, h7, hs⟩
theorem mm_site_v {L : Nat} {xs : Nat → Int32} {k pc idx k2 p : Nat} {lo : List (Option Value)} {st as r : List Value} {M : mm_M} (hl : mm_look (mm_cd k) pc = some (.invokevirtual idx, 3)) (ht : mm_thr k pc = none) (hc : mm_call (mm_own k) idx = some (k2, 2)) (hp : mm_pop (mm_np k2 + 1) [] st = some (.ref p :: as, r)) (hcl : mm_cls p = some (mm_own k2)) (hle : decide ((mm_arg (.ref p :: as)).length ≤ mm_ml k2) = true) (hca : decide (mm_cats r ≤ 8) = true) : mm_site L xs k (pc, lo, st, M) = some (k2, .ref p :: as, r) := by
  unfold mm_site
  simp only [hl, mm_pure, mm_heap, mm_swi, mm_intr, ht]
  have h5 : mm_ret k (.invokevirtual idx) st = none := by unfold mm_ret; split <;> first | rfl | (rename_i q; cases q)
  rw [h5]
  simp only [mm_cal, hc, hp, hcl, hle, hca]
  simp
theorem mm_R_call {α β : Type} {v : α → Option Value} {K : β → mm_M → mm_E → Prop} {g : mm_O α} {F : α → mm_M → mm_O β} {q : (β ⊕ Nat) × mm_M} {o : mm_E} {L : Nat} {xs : Nat → Int32} {d k pc k2 : Nat} {lo : List (Option Value)} {st as r : List Value} {M : mm_M} (h : mm_B g F = some q) (hA : mm_A K q o) (hs : mm_site L xs k (pc, lo, st, M) = some (k2, as, r)) (hn : ∀ x, mm_hnd k pc x = some none) (hg : ∀ q, g = some q → ∀ o, mm_A (mm_Kr v) q o → mm_Runs L xs d k2 (0, mm_ent (mm_ml k2) as, [], M) o) (hk : ∀ a M2, F a M2 = some q → mm_Runs L xs (d + 1) k (pc + 3, lo, (v a).toList ++ r, M2) o) : mm_Runs L xs (d + 1) k (pc, lo, st, M) o := by
  obtain ⟨ins, len, h1, h2, h3, h4, h5, h6, h7, h8⟩ := mm_site_ok hs
  rcases mm_B_inv h with ⟨a, M2, hq, h⟩ | ⟨x, M2, hq, rfl⟩
  · obtain ⟨n1, e1⟩ := hg _ hq (.inl (v a), M2) rfl
    obtain ⟨n2, e2⟩ := hk a M2 h
    refine ⟨max n1 n2 + 1, ?_⟩
    have e1 := mm_run_le L xs (Nat.le_max_left n1 n2) e1
    have e2 := mm_run_le L xs (Nat.le_max_right n1 n2) e2
    simp only [mm_run, h1, h2, h3, h4, h5, h6, h7, h8, e1]
    exact e2
  · cases hA
    obtain ⟨n1, e1⟩ := hg _ hq (.inr x, M2) rfl
    refine ⟨n1 + 1, ?_⟩
    simp only [mm_run, h1, h2, h3, h4, h5, h6, h7, h8, e1, hn]
theorem mm_R_callc {α β : Type} {v : α → Option Value} {K : β → mm_M → mm_E → Prop} {g : mm_O α} {F : α → mm_M → mm_O β} {X hh i : Nat} {c : mm_M → mm_O β} {q : (β ⊕ Nat) × mm_M} {o : mm_E} {L : Nat} {xs : Nat → Int32} {d k pc k2 : Nat} {lo : List (Option Value)} {st as r : List Value} {M : mm_M} (h : mm_Bc g F X c = some q) (_hA : mm_A K q o) (hs : mm_site L xs k (pc, lo, st, M) = some (k2, as, r)) (hn : mm_hnd k pc X = some (some (hh, i))) (hi : decide (i < lo.length) = true) (hg : ∀ q, g = some q → ∀ o, mm_A (mm_Kr v) q o → mm_Runs L xs d k2 (0, mm_ent (mm_ml k2) as, [], M) o) (hk : ∀ a M2, F a M2 = some q → mm_Runs L xs (d + 1) k (pc + 3, lo, (v a).toList ++ r, M2) o) (hc : ∀ M2, c M2 = some q → mm_Runs L xs (d + 1) k (hh, mm_frg lo i, [], M2) o) : mm_Runs L xs (d + 1) k (pc, lo, st, M) o := by
  obtain ⟨ins, len, h1, h2, h3, h4, h5, h6, h7, h8⟩ := mm_site_ok hs
  rcases mm_Bc_inv h with ⟨a, M2, hq, h⟩ | ⟨M2, hq, h⟩
  · obtain ⟨n1, e1⟩ := hg _ hq (.inl (v a), M2) rfl
    obtain ⟨n2, e2⟩ := hk a M2 h
    refine ⟨max n1 n2 + 1, ?_⟩
    have e1 := mm_run_le L xs (Nat.le_max_left n1 n2) e1
    have e2 := mm_run_le L xs (Nat.le_max_right n1 n2) e2
    simp only [mm_run, h1, h2, h3, h4, h5, h6, h7, h8, e1]
    exact e2
  · obtain ⟨n1, e1⟩ := hg _ hq (.inr X, M2) rfl
    obtain ⟨n2, e2⟩ := hc M2 h
    refine ⟨max n1 n2 + 1, ?_⟩
    have e1 := mm_run_le L xs (Nat.le_max_left n1 n2) e1
    have e2 := mm_run_le L xs (Nat.le_max_right n1 n2) e2
    simp only [mm_run, h1, h2, h3, h4, h5, h6, h7, h8, e1, hn, hi]
    exact e2
section RR
variable {L : Nat} {xs : Nat → Int32} {d k pc p n : Nat} {lo : List (Option Value)} {r : List Value} {M : mm_M} {o : mm_E} {i : Int32}
theorem mm_R_iald (hl : mm_look (mm_cd k) pc = some (.iaload, 1)) (ha : mm_aat 0 p = some n) (hi : mm_in i n = true) (hr : mm_Runs L xs d k (pc + 1, lo, .int (M.1 p i.toNatClampNeg) :: r, M) o) : mm_Runs L xs d k (pc, lo, .int i :: .ref p :: r, M) o := mm_Runs.step (by simp only [mm_st, hl, mm_pure, mm_heap, mm_ild, ha, hi]; rfl) hr
theorem mm_R_ialx (hl : mm_look (mm_cd k) pc = some (.iaload, 1)) (hi : mm_in i L = true) (hr : mm_Runs L xs d k (pc + 1, lo, .int (xs i.toNatClampNeg) :: r, M) o) : mm_Runs L xs d k (pc, lo, .int i :: .ref 200 :: r, M) o := mm_Runs.step (by simp only [mm_st, hl, mm_pure, mm_heap, mm_ild, show mm_aat 0 200 = none from rfl, hi]; rfl) hr
theorem mm_R_ialr (hl : mm_look (mm_cd k) pc = some (.iaload, 1)) (hi : mm_in i 19 = true) (hr : mm_Runs L xs d k (pc + 1, lo, .int (mm_row i.toNatClampNeg) :: r, M) o) : mm_Runs L xs d k (pc, lo, .int i :: .ref 201 :: r, M) o := mm_Runs.step (by simp only [mm_st, hl, mm_pure, mm_heap, mm_ild, show mm_aat 0 201 = none from rfl, hi]; rfl) hr
theorem mm_R_lald (hl : mm_look (mm_cd k) pc = some (.laload, 1)) (ha : mm_aat 1 p = some n) (hi : mm_in i n = true) (hr : mm_Runs L xs d k (pc + 1, lo, .long (M.2.1 p i.toNatClampNeg) :: r, M) o) : mm_Runs L xs d k (pc, lo, .int i :: .ref p :: r, M) o := mm_Runs.step (by simp only [mm_st, hl, mm_pure, mm_heap, ha, hi]; rfl) hr
theorem mm_R_aald (hl : mm_look (mm_cd k) pc = some (.aaload, 1)) (ha : mm_aat 2 p = some n) (hi : mm_in i n = true) (hr : mm_Runs L xs d k (pc + 1, lo, .ref (mm_tab i.toNatClampNeg) :: r, M) o) : mm_Runs L xs d k (pc, lo, .int i :: .ref p :: r, M) o := mm_Runs.step (by simp only [mm_st, hl, mm_pure, mm_heap, ha, hi]; rfl) hr
theorem mm_R_iast (hl : mm_look (mm_cd k) pc = some (.iastore, 1)) (ha : mm_aat 0 p = some n) (hi : mm_in i n = true) {x : Int32} (hr : mm_Runs L xs d k (pc + 1, lo, r, mm_pi M p i.toNatClampNeg x) o) : mm_Runs L xs d k (pc, lo, .int x :: .int i :: .ref p :: r, M) o := mm_Runs.step (by simp only [mm_st, hl, mm_pure, mm_heap, ha, hi]; rfl) hr
theorem mm_R_last (hl : mm_look (mm_cd k) pc = some (.lastore, 1)) (ha : mm_aat 1 p = some n) (hi : mm_in i n = true) {x : Int64} (hr : mm_Runs L xs d k (pc + 1, lo, r, mm_pl M p i.toNatClampNeg x) o) : mm_Runs L xs d k (pc, lo, .long x :: .int i :: .ref p :: r, M) o := mm_Runs.step (by simp only [mm_st, hl, mm_pure, mm_heap, ha, hi]; rfl) hr
theorem mm_R_alen (hl : mm_look (mm_cd k) pc = some (.arraylength, 1)) (ha : mm_aat 0 p = some n) (hr : mm_Runs L xs d k (pc + 1, lo, .int (Int32.ofNat n) :: r, M) o) : mm_Runs L xs d k (pc, lo, .ref p :: r, M) o := mm_Runs.step (by simp only [mm_st, hl, mm_pure, mm_heap, mm_len, mm_aat_ok ha]; rfl) hr
theorem mm_R_getf {idx ci j : Nat} {f : mm_Fd} (hl : mm_look (mm_cd k) pc = some (.getfield idx, 3)) (hf : mm_fld (mm_own k) idx = some (ci, j)) (hp : mm_fat p ci j = some f) (hr : mm_Runs L xs d k (pc + 3, lo, mm_val M p j f :: r, M) o) : mm_Runs L xs d k (pc, lo, .ref p :: r, M) o := mm_Runs.step (by simp only [mm_st, hl, mm_pure, mm_heap, mm_getf, hf, hp]; rfl) hr
theorem mm_R_putf {idx ci j : Nat} {x : Int32} (hl : mm_look (mm_cd k) pc = some (.putfield idx, 3)) (hf : mm_fld (mm_own k) idx = some (ci, j)) (hp : mm_fat p ci j = some (.inr .int)) (hr : mm_Runs L xs d k (pc + 3, lo, r, mm_pi M p j x) o) : mm_Runs L xs d k (pc, lo, .int x :: .ref p :: r, M) o := mm_Runs.step (by simp only [mm_st, hl, mm_pure, mm_heap, mm_putf, hf, hp]; rfl) hr
theorem mm_R_rem {x y : Int32} (hl : mm_look (mm_cd k) pc = some (.irem, 1)) (hy : ¬ y = 0) (hr : mm_Runs L xs d k (pc + 1, lo, .int (mm_rem x y) :: r, M) o) : mm_Runs L xs d k (pc, lo, .int y :: .int x :: r, M) o := mm_Runs.step (by simp only [mm_st, hl, mm_pure, show (y == 0) = false from beq_eq_false_iff_ne.mpr hy]; rfl) hr
theorem mm_R_retb {x : Int32} (hl : mm_look (mm_cd k) pc = some (.ireturn, 1)) (ht : mm_rt k = some .boolean) (hx : (x == 0 || x == 1) = true) (ho : o = (.inl (some (.int x)), M)) : mm_Runs L xs d k (pc, lo, [.int x], M) o := by
  subst ho; exact ⟨1, by simp only [mm_run, hl, mm_pure, mm_heap, mm_swi, mm_ret, ht, hx]; rfl⟩
theorem mm_R_reti {x : Int32} (hl : mm_look (mm_cd k) pc = some (.ireturn, 1)) (ht : mm_rt k = some .int) (ho : o = (.inl (some (.int x)), M)) : mm_Runs L xs d k (pc, lo, [.int x], M) o := by
  subst ho; exact ⟨1, by simp only [mm_run, hl, mm_pure, mm_heap, mm_swi, mm_ret, ht]⟩
theorem mm_R_retl {x : Int64} (hl : mm_look (mm_cd k) pc = some (.lreturn, 1)) (ht : mm_rt k = some .long) (ho : o = (.inl (some (.long x)), M)) : mm_Runs L xs d k (pc, lo, [.long x], M) o := by
  subst ho; exact ⟨1, by simp only [mm_run, hl, mm_pure, mm_heap, mm_swi, mm_ret, ht]⟩
theorem mm_R_retv (hl : mm_look (mm_cd k) pc = some (.return_, 1)) (ht : mm_rt k = none) (ho : o = (.inl none, M)) : mm_Runs L xs d k (pc, lo, [], M) o := by
  subst ho; exact ⟨1, by simp only [mm_run, hl, mm_pure, mm_heap, mm_swi, mm_ret, ht]⟩
theorem mm_R_thr {idx X : Nat} {st : List Value} (hl : mm_look (mm_cd k) pc = some (.new idx, 3)) (ht : (mm_thr k pc).map (fun e => e.2.2.1) = some X) (hc : decide (mm_cats st ≤ 8) = true) (hd : 7 ≤ d) (ho : o = (.inr X, mm_th M)) : mm_Runs L xs d k (pc, lo, st, M) o := by
  subst ho
  cases he : mm_thr k pc with
  | none => rw [he] at ht; cases ht
  | some e =>
    rw [he] at ht; cases ht
    have h5 : mm_ret k (.new idx) st = none := by unfold mm_ret; split <;> first | rfl | (rename_i q; cases q)
    exact ⟨1, by simp only [mm_run, hl, mm_pure, mm_heap, mm_swi, h5, mm_intr, he, hc, decide_eq_true hd]; rfl⟩
theorem mm_R_intr {idx : Nat} {st st2 : List Value} {M2 : mm_M} (hl : mm_look (mm_cd k) pc = some (.invokestatic idx, 3)) (hi : mm_intr (mm_own k) (.invokestatic idx) st M = some (st2, M2)) (hd : 2 ≤ d) (hr : mm_Runs L xs d k (pc + 3, lo, st2, M2) o) : mm_Runs L xs d k (pc, lo, st, M) o := by
  obtain ⟨n, hn⟩ := hr
  have h5 : mm_ret k (.invokestatic idx) st = none := by unfold mm_ret; split <;> first | rfl | (rename_i q; cases q)
  exact ⟨n + 1, by simp only [mm_run, hl, mm_pure, mm_heap, mm_swi, h5, hi, decide_eq_true hd]; exact hn⟩
theorem mm_R_cpy {idx p2 n2 : Nat} {sp dp c : Int32} (hl : mm_look (mm_cd k) pc = some (.invokestatic idx, 3)) (hi : mm_int (mm_own k) idx = some 2) (h0 : mm_aat 0 p = some n) (h1 : mm_aat 0 p2 = some n2) (hc : decide (mm_cats r ≤ 8) = true) (hok : mm_cpok sp dp c n n2 = true) (hd : 2 ≤ d) (hr : mm_Runs L xs d k (pc + 3, lo, r, mm_cpM M p sp p2 dp c) o) : mm_Runs L xs d k (pc, lo, .int c :: .int dp :: .ref p2 :: .int sp :: .ref p :: r, M) o := by
  refine mm_R_intr hl ?_ hd hr
  simp only [mm_intr, hi, h0, h1]
  unfold mm_cpok at hok
  rw [hok, hc]
  rfl

theorem mm_R_ieq {x y : Int32} {off : Int} {t : Nat} (hl : mm_look (mm_cd k) pc = some (.if_icmp .eq off, 3)) (hb : decide (0 ≤ (pc : Int) + off) = true) (ht : ((pc : Int) + off).toNat = t) (h1 : x = y → mm_Runs L xs d k (t, lo, r, M) o) (h2 : ¬ x = y → mm_Runs L xs d k (pc + 3, lo, r, M) o) : mm_Runs L xs d k (pc, lo, .int y :: .int x :: r, M) o := by
  by_cases hc : x = y
  · have e : (x == y) = true := by simp [hc]
    exact mm_Runs.step (by simp only [mm_st, hl, mm_pure, hb, ht, e]; rfl) (h1 hc)
  · have e : (x == y) = false := by simp [hc]
    exact mm_Runs.step (by simp only [mm_st, hl, mm_pure, hb, ht, e]; rfl) (h2 hc)
theorem mm_R_ine {x y : Int32} {off : Int} {t : Nat} (hl : mm_look (mm_cd k) pc = some (.if_icmp .ne off, 3)) (hb : decide (0 ≤ (pc : Int) + off) = true) (ht : ((pc : Int) + off).toNat = t) (h1 : x = y → mm_Runs L xs d k (pc + 3, lo, r, M) o) (h2 : ¬ x = y → mm_Runs L xs d k (t, lo, r, M) o) : mm_Runs L xs d k (pc, lo, .int y :: .int x :: r, M) o := by
  by_cases hc : x = y
  · have e : (!(x == y)) = false := by simp [hc]
    exact mm_Runs.step (by simp only [mm_st, hl, mm_pure, hb, ht, e]; rfl) (h1 hc)
  · have e : (!(x == y)) = true := by simp [hc]
    exact mm_Runs.step (by simp only [mm_st, hl, mm_pure, hb, ht, e]; rfl) (h2 hc)
theorem mm_R_ilt {x y : Int32} {off : Int} {t : Nat} (hl : mm_look (mm_cd k) pc = some (.if_icmp .lt off, 3)) (hb : decide (0 ≤ (pc : Int) + off) = true) (ht : ((pc : Int) + off).toNat = t) (h1 : x < y → mm_Runs L xs d k (t, lo, r, M) o) (h2 : ¬ x < y → mm_Runs L xs d k (pc + 3, lo, r, M) o) : mm_Runs L xs d k (pc, lo, .int y :: .int x :: r, M) o := by
  by_cases hc : x < y
  · have e : (decide (x < y)) = true := by simp [hc]
    exact mm_Runs.step (by simp only [mm_st, hl, mm_pure, hb, ht, e]; rfl) (h1 hc)
  · have e : (decide (x < y)) = false := by simp [hc]
    exact mm_Runs.step (by simp only [mm_st, hl, mm_pure, hb, ht, e]; rfl) (h2 hc)
theorem mm_R_ige {x y : Int32} {off : Int} {t : Nat} (hl : mm_look (mm_cd k) pc = some (.if_icmp .ge off, 3)) (hb : decide (0 ≤ (pc : Int) + off) = true) (ht : ((pc : Int) + off).toNat = t) (h1 : x < y → mm_Runs L xs d k (pc + 3, lo, r, M) o) (h2 : ¬ x < y → mm_Runs L xs d k (t, lo, r, M) o) : mm_Runs L xs d k (pc, lo, .int y :: .int x :: r, M) o := by
  by_cases hc : x < y
  · have e : (decide (y ≤ x)) = false := by simpa using hc
    exact mm_Runs.step (by simp only [mm_st, hl, mm_pure, hb, ht, e]; rfl) (h1 hc)
  · have e : (decide (y ≤ x)) = true := by simpa using hc
    exact mm_Runs.step (by simp only [mm_st, hl, mm_pure, hb, ht, e]; rfl) (h2 hc)
theorem mm_R_igt {x y : Int32} {off : Int} {t : Nat} (hl : mm_look (mm_cd k) pc = some (.if_icmp .gt off, 3)) (hb : decide (0 ≤ (pc : Int) + off) = true) (ht : ((pc : Int) + off).toNat = t) (h1 : y < x → mm_Runs L xs d k (t, lo, r, M) o) (h2 : ¬ y < x → mm_Runs L xs d k (pc + 3, lo, r, M) o) : mm_Runs L xs d k (pc, lo, .int y :: .int x :: r, M) o := by
  by_cases hc : y < x
  · have e : (decide (y < x)) = true := by simp [hc]
    exact mm_Runs.step (by simp only [mm_st, hl, mm_pure, hb, ht, e]; rfl) (h1 hc)
  · have e : (decide (y < x)) = false := by simp [hc]
    exact mm_Runs.step (by simp only [mm_st, hl, mm_pure, hb, ht, e]; rfl) (h2 hc)
theorem mm_R_ile {x y : Int32} {off : Int} {t : Nat} (hl : mm_look (mm_cd k) pc = some (.if_icmp .le off, 3)) (hb : decide (0 ≤ (pc : Int) + off) = true) (ht : ((pc : Int) + off).toNat = t) (h1 : y < x → mm_Runs L xs d k (pc + 3, lo, r, M) o) (h2 : ¬ y < x → mm_Runs L xs d k (t, lo, r, M) o) : mm_Runs L xs d k (pc, lo, .int y :: .int x :: r, M) o := by
  by_cases hc : y < x
  · have e : (decide (x ≤ y)) = false := by simpa using hc
    exact mm_Runs.step (by simp only [mm_st, hl, mm_pure, hb, ht, e]; rfl) (h1 hc)
  · have e : (decide (x ≤ y)) = true := by simpa using hc
    exact mm_Runs.step (by simp only [mm_st, hl, mm_pure, hb, ht, e]; rfl) (h2 hc)
theorem mm_R_zeq {x : Int32} {off : Int} {t : Nat} (hl : mm_look (mm_cd k) pc = some (.ifCond .eq off, 3)) (hb : decide (0 ≤ (pc : Int) + off) = true) (ht : ((pc : Int) + off).toNat = t) (h1 : x = (0 : Int32) → mm_Runs L xs d k (t, lo, r, M) o) (h2 : ¬ x = (0 : Int32) → mm_Runs L xs d k (pc + 3, lo, r, M) o) : mm_Runs L xs d k (pc, lo, .int x :: r, M) o := by
  by_cases hc : x = (0 : Int32)
  · have e : (x == 0) = true := by simp [hc]
    exact mm_Runs.step (by simp only [mm_st, hl, mm_pure, hb, ht, e]; rfl) (h1 hc)
  · have e : (x == 0) = false := by simp [hc]
    exact mm_Runs.step (by simp only [mm_st, hl, mm_pure, hb, ht, e]; rfl) (h2 hc)
theorem mm_R_zne {x : Int32} {off : Int} {t : Nat} (hl : mm_look (mm_cd k) pc = some (.ifCond .ne off, 3)) (hb : decide (0 ≤ (pc : Int) + off) = true) (ht : ((pc : Int) + off).toNat = t) (h1 : x = (0 : Int32) → mm_Runs L xs d k (pc + 3, lo, r, M) o) (h2 : ¬ x = (0 : Int32) → mm_Runs L xs d k (t, lo, r, M) o) : mm_Runs L xs d k (pc, lo, .int x :: r, M) o := by
  by_cases hc : x = (0 : Int32)
  · have e : (!(x == 0)) = false := by simp [hc]
    exact mm_Runs.step (by simp only [mm_st, hl, mm_pure, hb, ht, e]; rfl) (h1 hc)
  · have e : (!(x == 0)) = true := by simp [hc]
    exact mm_Runs.step (by simp only [mm_st, hl, mm_pure, hb, ht, e]; rfl) (h2 hc)
theorem mm_R_zlt {x : Int32} {off : Int} {t : Nat} (hl : mm_look (mm_cd k) pc = some (.ifCond .lt off, 3)) (hb : decide (0 ≤ (pc : Int) + off) = true) (ht : ((pc : Int) + off).toNat = t) (h1 : x < (0 : Int32) → mm_Runs L xs d k (t, lo, r, M) o) (h2 : ¬ x < (0 : Int32) → mm_Runs L xs d k (pc + 3, lo, r, M) o) : mm_Runs L xs d k (pc, lo, .int x :: r, M) o := by
  by_cases hc : x < (0 : Int32)
  · have e : (decide (x < 0)) = true := by simp [hc]
    exact mm_Runs.step (by simp only [mm_st, hl, mm_pure, hb, ht, e]; rfl) (h1 hc)
  · have e : (decide (x < 0)) = false := by simp [hc]
    exact mm_Runs.step (by simp only [mm_st, hl, mm_pure, hb, ht, e]; rfl) (h2 hc)
theorem mm_R_zge {x : Int32} {off : Int} {t : Nat} (hl : mm_look (mm_cd k) pc = some (.ifCond .ge off, 3)) (hb : decide (0 ≤ (pc : Int) + off) = true) (ht : ((pc : Int) + off).toNat = t) (h1 : x < (0 : Int32) → mm_Runs L xs d k (pc + 3, lo, r, M) o) (h2 : ¬ x < (0 : Int32) → mm_Runs L xs d k (t, lo, r, M) o) : mm_Runs L xs d k (pc, lo, .int x :: r, M) o := by
  by_cases hc : x < (0 : Int32)
  · have e : (decide (0 ≤ x)) = false := by simpa using hc
    exact mm_Runs.step (by simp only [mm_st, hl, mm_pure, hb, ht, e]; rfl) (h1 hc)
  · have e : (decide (0 ≤ x)) = true := by simpa using hc
    exact mm_Runs.step (by simp only [mm_st, hl, mm_pure, hb, ht, e]; rfl) (h2 hc)
theorem mm_R_zgt {x : Int32} {off : Int} {t : Nat} (hl : mm_look (mm_cd k) pc = some (.ifCond .gt off, 3)) (hb : decide (0 ≤ (pc : Int) + off) = true) (ht : ((pc : Int) + off).toNat = t) (h1 : (0 : Int32) < x → mm_Runs L xs d k (t, lo, r, M) o) (h2 : ¬ (0 : Int32) < x → mm_Runs L xs d k (pc + 3, lo, r, M) o) : mm_Runs L xs d k (pc, lo, .int x :: r, M) o := by
  by_cases hc : (0 : Int32) < x
  · have e : (decide (0 < x)) = true := by simp [hc]
    exact mm_Runs.step (by simp only [mm_st, hl, mm_pure, hb, ht, e]; rfl) (h1 hc)
  · have e : (decide (0 < x)) = false := by simp [hc]
    exact mm_Runs.step (by simp only [mm_st, hl, mm_pure, hb, ht, e]; rfl) (h2 hc)
theorem mm_R_zle {x : Int32} {off : Int} {t : Nat} (hl : mm_look (mm_cd k) pc = some (.ifCond .le off, 3)) (hb : decide (0 ≤ (pc : Int) + off) = true) (ht : ((pc : Int) + off).toNat = t) (h1 : (0 : Int32) < x → mm_Runs L xs d k (pc + 3, lo, r, M) o) (h2 : ¬ (0 : Int32) < x → mm_Runs L xs d k (t, lo, r, M) o) : mm_Runs L xs d k (pc, lo, .int x :: r, M) o := by
  by_cases hc : (0 : Int32) < x
  · have e : (decide (x ≤ 0)) = false := by simpa using hc
    exact mm_Runs.step (by simp only [mm_st, hl, mm_pure, hb, ht, e]; rfl) (h1 hc)
  · have e : (decide (x ≤ 0)) = true := by simpa using hc
    exact mm_Runs.step (by simp only [mm_st, hl, mm_pure, hb, ht, e]; rfl) (h2 hc)
theorem mm_cmp_lt {x y : Int64} : lg_cmp x y < 0 ↔ x < y := by
  unfold lg_cmp
  by_cases h : x > y
  · rw [if_pos h]
    exact ⟨fun q => absurd q (by decide), fun q => absurd (Int64.lt_trans h q) Int64.lt_irrefl⟩
  · rw [if_neg h]
    by_cases h2 : x = y
    · rw [if_pos h2]; subst h2
      exact ⟨fun q => absurd q (by decide), fun q => absurd q Int64.lt_irrefl⟩
    · rw [if_neg h2]
      refine ⟨fun _ => ?_, fun _ => by decide⟩
      rcases Int64.le_iff_lt_or_eq.mp (Int64.not_lt.mp h) with q | q
      · exact q
      · exact absurd q h2
theorem mm_cmp_gt {x y : Int64} : 0 < lg_cmp x y ↔ y < x := by
  unfold lg_cmp
  by_cases h : x > y
  · rw [if_pos h]; exact ⟨fun _ => h, fun _ => by decide⟩
  · rw [if_neg h]
    by_cases h2 : x = y
    · rw [if_pos h2]; exact ⟨fun q => absurd q (by decide), fun q => absurd q h⟩
    · rw [if_neg h2]; exact ⟨fun q => absurd q (by decide), fun q => absurd q h⟩
theorem mm_cmp_eq {x y : Int64} : lg_cmp x y = 0 ↔ x = y := by
  unfold lg_cmp
  by_cases h : x > y
  · rw [if_pos h]
    refine ⟨fun q => absurd q (by decide), fun q => ?_⟩
    subst q; exact absurd h Int64.lt_irrefl
  · rw [if_neg h]
    by_cases h2 : x = y
    · rw [if_pos h2]; exact ⟨fun _ => h2, fun _ => rfl⟩
    · rw [if_neg h2]; exact ⟨fun q => absurd q (by decide), fun q => absurd q h2⟩
theorem mm_R_leq {x y : Int64} {off : Int} {t : Nat} (hl0 : mm_look (mm_cd k) pc = some (.lcmp, 1)) (hl : mm_look (mm_cd k) (pc + 1) = some (.ifCond .eq off, 3)) (hb : decide (0 ≤ ((pc + 1 : Nat) : Int) + off) = true) (ht : (((pc + 1 : Nat) : Int) + off).toNat = t) (h1 : x = y → mm_Runs L xs d k (t, lo, r, M) o) (h2 : ¬ x = y → mm_Runs L xs d k (pc + 4, lo, r, M) o) : mm_Runs L xs d k (pc, lo, .long y :: .long x :: r, M) o := by
  refine mm_Runs.step (S2 := (pc + 1, lo, .int (lg_cmp x y) :: r, M)) (by simp only [mm_st, hl0, mm_pure]) ?_
  exact mm_R_zeq hl hb ht (fun q => h1 (mm_cmp_eq.mp q)) (fun q => h2 (fun q2 => q (mm_cmp_eq.mpr q2)))
theorem mm_R_lne {x y : Int64} {off : Int} {t : Nat} (hl0 : mm_look (mm_cd k) pc = some (.lcmp, 1)) (hl : mm_look (mm_cd k) (pc + 1) = some (.ifCond .ne off, 3)) (hb : decide (0 ≤ ((pc + 1 : Nat) : Int) + off) = true) (ht : (((pc + 1 : Nat) : Int) + off).toNat = t) (h1 : x = y → mm_Runs L xs d k (pc + 4, lo, r, M) o) (h2 : ¬ x = y → mm_Runs L xs d k (t, lo, r, M) o) : mm_Runs L xs d k (pc, lo, .long y :: .long x :: r, M) o := by
  refine mm_Runs.step (S2 := (pc + 1, lo, .int (lg_cmp x y) :: r, M)) (by simp only [mm_st, hl0, mm_pure]) ?_
  exact mm_R_zne hl hb ht (fun q => h1 (mm_cmp_eq.mp q)) (fun q => h2 (fun q2 => q (mm_cmp_eq.mpr q2)))
theorem mm_R_llt {x y : Int64} {off : Int} {t : Nat} (hl0 : mm_look (mm_cd k) pc = some (.lcmp, 1)) (hl : mm_look (mm_cd k) (pc + 1) = some (.ifCond .lt off, 3)) (hb : decide (0 ≤ ((pc + 1 : Nat) : Int) + off) = true) (ht : (((pc + 1 : Nat) : Int) + off).toNat = t) (h1 : x < y → mm_Runs L xs d k (t, lo, r, M) o) (h2 : ¬ x < y → mm_Runs L xs d k (pc + 4, lo, r, M) o) : mm_Runs L xs d k (pc, lo, .long y :: .long x :: r, M) o := by
  refine mm_Runs.step (S2 := (pc + 1, lo, .int (lg_cmp x y) :: r, M)) (by simp only [mm_st, hl0, mm_pure]) ?_
  exact mm_R_zlt hl hb ht (fun q => h1 (mm_cmp_lt.mp q)) (fun q => h2 (fun q2 => q (mm_cmp_lt.mpr q2)))
theorem mm_R_lge {x y : Int64} {off : Int} {t : Nat} (hl0 : mm_look (mm_cd k) pc = some (.lcmp, 1)) (hl : mm_look (mm_cd k) (pc + 1) = some (.ifCond .ge off, 3)) (hb : decide (0 ≤ ((pc + 1 : Nat) : Int) + off) = true) (ht : (((pc + 1 : Nat) : Int) + off).toNat = t) (h1 : x < y → mm_Runs L xs d k (pc + 4, lo, r, M) o) (h2 : ¬ x < y → mm_Runs L xs d k (t, lo, r, M) o) : mm_Runs L xs d k (pc, lo, .long y :: .long x :: r, M) o := by
  refine mm_Runs.step (S2 := (pc + 1, lo, .int (lg_cmp x y) :: r, M)) (by simp only [mm_st, hl0, mm_pure]) ?_
  exact mm_R_zge hl hb ht (fun q => h1 (mm_cmp_lt.mp q)) (fun q => h2 (fun q2 => q (mm_cmp_lt.mpr q2)))
theorem mm_R_lgt {x y : Int64} {off : Int} {t : Nat} (hl0 : mm_look (mm_cd k) pc = some (.lcmp, 1)) (hl : mm_look (mm_cd k) (pc + 1) = some (.ifCond .gt off, 3)) (hb : decide (0 ≤ ((pc + 1 : Nat) : Int) + off) = true) (ht : (((pc + 1 : Nat) : Int) + off).toNat = t) (h1 : y < x → mm_Runs L xs d k (t, lo, r, M) o) (h2 : ¬ y < x → mm_Runs L xs d k (pc + 4, lo, r, M) o) : mm_Runs L xs d k (pc, lo, .long y :: .long x :: r, M) o := by
  refine mm_Runs.step (S2 := (pc + 1, lo, .int (lg_cmp x y) :: r, M)) (by simp only [mm_st, hl0, mm_pure]) ?_
  exact mm_R_zgt hl hb ht (fun q => h1 (mm_cmp_gt.mp q)) (fun q => h2 (fun q2 => q (mm_cmp_gt.mpr q2)))
theorem mm_R_lle {x y : Int64} {off : Int} {t : Nat} (hl0 : mm_look (mm_cd k) pc = some (.lcmp, 1)) (hl : mm_look (mm_cd k) (pc + 1) = some (.ifCond .le off, 3)) (hb : decide (0 ≤ ((pc + 1 : Nat) : Int) + off) = true) (ht : (((pc + 1 : Nat) : Int) + off).toNat = t) (h1 : y < x → mm_Runs L xs d k (pc + 4, lo, r, M) o) (h2 : ¬ y < x → mm_Runs L xs d k (t, lo, r, M) o) : mm_Runs L xs d k (pc, lo, .long y :: .long x :: r, M) o := by
  refine mm_Runs.step (S2 := (pc + 1, lo, .int (lg_cmp x y) :: r, M)) (by simp only [mm_st, hl0, mm_pure]) ?_
  exact mm_R_zle hl hb ht (fun q => h1 (mm_cmp_gt.mp q)) (fun q => h2 (fun q2 => q (mm_cmp_gt.mpr q2)))
theorem mm_R_sw {st2 : List Value} {x : Int32} {ins : Instr} {len t : Nat} (hl : mm_look (mm_cd k) pc = some (ins, len)) (hp : mm_pure ins pc len lo (.int x :: r) = none) (hh : mm_heap (mm_own k) L xs ins pc (.int x :: r) M = none) (hs : mm_swi ins pc (.int x :: r) = some (t, st2)) (hr : mm_Runs L xs d k (t, lo, st2, M) o) : mm_Runs L xs d k (pc, lo, .int x :: r, M) o := mm_Runs.step (by simp only [mm_st, hl, hp, hh, hs]) hr
theorem mm_tsd {x : Int32} {dd lo2 hi : Int} {offs : Array Int} {t : Nat} (hx : x.toInt < lo2 ∨ hi < x.toInt) (hb : decide (0 ≤ (pc : Int) + dd) = true) (ht : ((pc : Int) + dd).toNat = t) : mm_swi (.tableswitch dd lo2 hi offs) pc (.int x :: r) = some (t, r) := by
  have e : (decide (x.toInt < lo2) || decide (hi < x.toInt)) = true := by rcases hx with h | h <;> simp [h]
  simp only [mm_swi, e, hb, ht]
  rfl
theorem mm_i32 {x : Int32} {n : Int} (h : ¬ x = Int32.ofInt n) (h1 : -2147483648 ≤ n) (h2 : n ≤ 2147483647) : ¬ x.toInt = n := fun q => h (by rw [← q]; exact (Int32.ofInt_toInt x).symm)
end RR
