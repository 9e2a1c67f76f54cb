/-! MEANINGS: Codes by place; a few words more -/
def mm_isC (p n : Nat) : Prop := mm_nth mm_sh p = some (.inl (7, [.inl (p + 1), .inl (p + 2), .inl (p + 3), .inl (p + 4), .inr .int, .inr .int])) ∧ mm_aat 0 (p + 1) = some n ∧ mm_aat 0 (p + 2) = some n ∧ mm_aat 0 (p + 3) = some 21 ∧ mm_aat 0 (p + 4) = some 21
theorem mm_isC_f0 {p n : Nat} (h : mm_isC p n) : mm_fat p 7 0 = some (.inl (p + 1)) := by unfold mm_fat; rw [h.1]; rfl
theorem mm_isC_f1 {p n : Nat} (h : mm_isC p n) : mm_fat p 7 1 = some (.inl (p + 2)) := by unfold mm_fat; rw [h.1]; rfl
theorem mm_isC_f2 {p n : Nat} (h : mm_isC p n) : mm_fat p 7 2 = some (.inl (p + 3)) := by unfold mm_fat; rw [h.1]; rfl
theorem mm_isC_f3 {p n : Nat} (h : mm_isC p n) : mm_fat p 7 3 = some (.inl (p + 4)) := by unfold mm_fat; rw [h.1]; rfl
theorem mm_isC_f4 {p n : Nat} (h : mm_isC p n) : mm_fat p 7 4 = some (.inr .int) := by unfold mm_fat; rw [h.1]; rfl
theorem mm_isC_f5 {p n : Nat} (h : mm_isC p n) : mm_fat p 7 5 = some (.inr .int) := by unfold mm_fat; rw [h.1]; rfl
theorem mm_isC_a1 {p n : Nat} (h : mm_isC p n) : mm_aat 0 (p + 1) = some n := h.2.1
theorem mm_isC_a2 {p n : Nat} (h : mm_isC p n) : mm_aat 0 (p + 2) = some n := h.2.2.1
theorem mm_isC_a3 {p n : Nat} (h : mm_isC p n) : mm_aat 0 (p + 3) = some 21 := h.2.2.2.1
theorem mm_isC_a4 {p n : Nat} (h : mm_isC p n) : mm_aat 0 (p + 4) = some 21 := h.2.2.2.2
theorem mm_isC_cls {p n : Nat} (h : mm_isC p n) : mm_cls p = some 7 := by unfold mm_cls; rw [h.1]
theorem mm_isC_tab {t : Nat} (h : t < 6) : mm_isC (mm_tab t) 258 := by
  match t, h with
  | 0, _ => exact ⟨rfl, rfl, rfl, rfl, rfl⟩
  | 1, _ => exact ⟨rfl, rfl, rfl, rfl, rfl⟩
  | 2, _ => exact ⟨rfl, rfl, rfl, rfl, rfl⟩
  | 3, _ => exact ⟨rfl, rfl, rfl, rfl, rfl⟩
  | 4, _ => exact ⟨rfl, rfl, rfl, rfl, rfl⟩
  | 5, _ => exact ⟨rfl, rfl, rfl, rfl, rfl⟩
theorem mm_ip {α : Type} {c : Prop} {i : Decidable c} {a b : Option α} {q : α} (hc : c) (h : @ite (Option α) c i a b = some q) : a = some q := by rw [if_pos hc] at h; exact h
theorem mm_iq {α : Type} {c : Prop} {i : Decidable c} {a b : Option α} {q : α} (hc : ¬ c) (h : @ite (Option α) c i a b = some q) : b = some q := by rw [if_neg hc] at h; exact h
def mm_pur2 (ins : Instr) (pc len : Nat) (lo : List (Option Value)) (st : List Value) : Option (Nat × List (Option Value) × List Value) := match ins with
  | .ishl => match st with | .int y :: .int x :: r => some (pc + len, lo, .int (mm_shl x y) :: r) | _ => none
  | .ishr => match st with | .int y :: .int x :: r => some (pc + len, lo, .int (mm_shr x y) :: r) | _ => none
  | .iushr => match st with | .int y :: .int x :: r => some (pc + len, lo, .int (mm_ush x y) :: r) | _ => none
  | .lshl => match st with | .int y :: .long x :: r => some (pc + len, lo, .long (mm_lshl x y) :: r) | _ => none
  | .lshr => match st with | .int y :: .long x :: r => some (pc + len, lo, .long (mm_lshr x y) :: r) | _ => none
  | .lushr => match st with | .int y :: .long x :: r => some (pc + len, lo, .long (mm_lush x y) :: r) | _ => none
  | .irem => match st with | .int y :: .int x :: r => bif y == 0 then none else some (pc + len, lo, .int (mm_rem x y) :: r) | _ => none
  | i => mm_pure i pc len lo st
theorem mm_pur2_eq (ins : Instr) (pc len : Nat) (lo : List (Option Value)) (st : List Value) : mm_pur2 ins pc len lo st = mm_pure ins pc len lo st := by cases ins <;> rfl
def mm_stI (L : Nat) (xs : Nat → Int32) (w : Nat) (ins : Instr) (len : Nat) (S : mm_S) : Option mm_S := match mm_pur2 ins S.1 len S.2.1 S.2.2.1 with
  | some (pc2, lo2, st2) => some (pc2, lo2, st2, S.2.2.2)
  | none => match mm_heap w L xs ins S.1 S.2.2.1 S.2.2.2 with
    | some (pc2, st2, M2) => some (pc2, S.2.1, st2, M2)
    | none => none
def mm_seq (L : Nat) (xs : Nat → Int32) (w : Nat) : List (Nat × Instr × Nat) → mm_S → Option mm_S
  | [], S => some S
  | (pc, ins, len) :: r, S => bif S.1 == pc then (match mm_stI L xs w ins len S with
    | some S2 => mm_seq L xs w r S2
    | none => none) else none
def mm_sgk (k : Nat) (l : List (Nat × Instr × Nat)) : Bool := l.all (fun e => decide (mm_look (mm_cd k) e.1 = some e.2))
theorem mm_Runs.seq {L : Nat} {xs : Nat → Int32} {w d k : Nat} {o : mm_R × mm_M} {l : List (Nat × Instr × Nat)} {S S2 : mm_S} (hl : mm_sgk k l = true) (hO : mm_own k = w) (h : mm_seq L xs w l S = some S2) (hr : mm_Runs L xs d k S2 o) : mm_Runs L xs d k S o := by
  induction l generalizing S with
  | nil => cases h; exact hr
  | cons e r ih =>
    obtain ⟨pc, ins, len⟩ := e
    simp only [mm_sgk, List.all_cons, Bool.and_eq_true, decide_eq_true_eq] at hl
    simp only [mm_seq] at h
    cases hb : S.1 == pc with
    | false => rw [hb] at h; cases h
    | true =>
      rw [hb] at h
      rw [beq_iff_eq] at hb
      simp only [cond_true] at h
      split at h
      · rename_i S3 h3
        refine mm_Runs.step (S2 := S3) ?_ (ih hl.2 h)
        unfold mm_stI at h3
        rw [mm_pur2_eq] at h3
        unfold mm_st
        rw [hb, hl.1, hO]
        dsimp only
        rw [hb] at h3
        split at h3
        · rename_i q; rw [q]; exact h3
        · rename_i q; rw [q]; dsimp only
          split at h3
          · rename_i q; rw [q]; exact h3
          · cases h3
      · cases h
theorem mm_lsd2 {pc : Nat} {r : List Value} {x : Int32} {a b dd o1 o2 : Int} {t : Nat} (ha : ¬ x.toInt = a) (hb : ¬ x.toInt = b) (hs : (decide (a < b) && decide (0 ≤ (pc : Int) + dd)) = true) (ht : ((pc : Int) + dd).toNat = t) : mm_swi (.lookupswitch dd #[(a, o1), (b, o2)]) pc (.int x :: r) = some (t, r) := by
  have e : Op.lookupswitch.offset [(a, o1), (b, o2)] dd x.toInt = dd := by
    simp only [Op.lookupswitch.offset]
    rw [if_neg (fun q => ha q.symm), if_neg (fun q => hb q.symm)]
  simp only [Bool.and_eq_true, decide_eq_true_eq] at hs
  simp only [mm_swi, e, ht]
  simp [hs.1, hs.2]
