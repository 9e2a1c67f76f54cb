/-! RUNS: the small machine by rules -/
def mm_Runs (L : Nat) (xs : Nat → Int32) (d k : Nat) (S : mm_S) (o : mm_R × mm_M) : Prop := ∃ n, mm_run L xs n d k S = some o
theorem mm_run_mono (L : Nat) (xs : Nat → Int32) : ∀ (n d k : Nat) (S : mm_S) (o : mm_R × mm_M), mm_run L xs n d k S = some o → mm_run L xs (n + 1) d k S = some o := by
  intro n
  induction n with
  | zero => intro d k S o h; cases h
  | succ n ih =>
    intro d k S o h
    obtain ⟨pc, lo, st, M⟩ := S
    simp only [mm_run] at h
    rw [mm_run]
    split at h
    · cases h
    · rename_i ins len hl
      split at h
      · rename_i hp; (try rw [hp]); exact ih _ _ _ _ h
      · rename_i hp; (try rw [hp]); (try dsimp only)
        split at h
        · rename_i hq; (try rw [hq]); exact ih _ _ _ _ h
        · rename_i hq; (try rw [hq]); (try dsimp only)
          split at h
          · rename_i hr; (try rw [hr]); exact ih _ _ _ _ h
          · rename_i hr; (try rw [hr]); (try dsimp only)
            split at h
            · rename_i hs; (try rw [hs]); exact h
            · rename_i hs; (try rw [hs]); (try dsimp only)
              split at h
              · rename_i ht; (try rw [ht]); (try dsimp only)
                rw [cond_eq_if] at h ⊢
                split at h
                · rename_i hc; rw [if_pos hc]; exact ih _ _ _ _ h
                · cases h
              · rename_i ht; (try rw [ht]); (try dsimp only)
                split at h
                · rename_i hu; (try rw [hu]); exact h
                · rename_i hu; (try rw [hu]); (try dsimp only)
                  split at h
                  · cases h
                  · rename_i hv; (try rw [hv]); (try dsimp only)
                    split at h
                    · cases h
                    · split at h
                      · cases h
                      · rename_i hw; rw [ih _ _ _ _ hw]; exact ih _ _ _ _ h
                      · rename_i hw; rw [ih _ _ _ _ hw]; (try dsimp only)
                        split at h
                        · cases h
                        · rename_i hx; (try rw [hx]); exact h
                        · rename_i hx; (try rw [hx]); (try dsimp only)
                          rw [cond_eq_if] at h ⊢
                          split at h
                          · rename_i hc; rw [if_pos hc]; exact ih _ _ _ _ h
                          · cases h
theorem mm_run_le (L : Nat) (xs : Nat → Int32) {n n2 : Nat} (hn : n ≤ n2) {d k : Nat} {S : mm_S} {o : mm_R × mm_M} (h : mm_run L xs n d k S = some o) : mm_run L xs n2 d k S = some o := by
  induction hn with
  | refl => exact h
  | step _ ih => exact mm_run_mono L xs _ _ _ _ _ ih
/-- a step that stays in the method, without a call -/
def mm_st (L : Nat) (xs : Nat → Int32) (k : Nat) (S : mm_S) : Option mm_S := match mm_look (mm_cd k) S.1 with
  | none => none
  | some (ins, len) => match mm_pure ins S.1 len S.2.1 S.2.2.1 with
    | some (pc2, lo2, st2) => some (pc2, lo2, st2, S.2.2.2)
    | none => match mm_heap (mm_own k) L xs ins S.1 S.2.2.1 S.2.2.2 with
      | some (pc2, st2, M2) => some (pc2, S.2.1, st2, M2)
      | none => match mm_swi ins S.1 S.2.2.1 with
        | some (pc2, st2) => some (pc2, S.2.1, st2, S.2.2.2)
        | none => none
def mm_sts (L : Nat) (xs : Nat → Int32) (k : Nat) : Nat → mm_S → Option mm_S
  | 0, S => some S
  | n + 1, S => match mm_st L xs k S with
    | some S2 => mm_sts L xs k n S2
    | none => none
theorem mm_Runs.step {L : Nat} {xs : Nat → Int32} {d k : Nat} {S S2 : mm_S} {o : mm_R × mm_M} (h : mm_st L xs k S = some S2) (hr : mm_Runs L xs d k S2 o) : mm_Runs L xs d k S o := by
  obtain ⟨n, hn⟩ := hr
  refine ⟨n + 1, ?_⟩
  obtain ⟨pc, lo, st, M⟩ := S
  unfold mm_st at h
  dsimp only at h
  rw [mm_run]
  split at h
  · cases h
  · rename_i ins len hl
    rw [hl]
    dsimp only
    split at h
    · rename_i hp; rw [hp]; cases h; exact hn
    · rename_i hp; rw [hp]; dsimp only
      split at h
      · rename_i hq; rw [hq]; cases h; exact hn
      · rename_i hq; rw [hq]; dsimp only
        split at h
        · rename_i hr; rw [hr]; cases h; exact hn
        · cases h
theorem mm_Runs.steps {L : Nat} {xs : Nat → Int32} {d k : Nat} {o : mm_R × mm_M} : ∀ (n : Nat) {S S2 : mm_S}, mm_sts L xs k n S = some S2 → mm_Runs L xs d k S2 o → mm_Runs L xs d k S o
  | 0, S, S2, h, hr => by cases h; exact hr
  | n + 1, S, S2, h, hr => by
    simp only [mm_sts] at h
    split at h
    · rename_i S3 h3
      exact mm_Runs.step h3 (mm_Runs.steps n h hr)
    · cases h
theorem mm_test40 (L : Nat) (xs : Nat → Int32) (M : mm_M) : mm_sts L xs 40 16 (0, [some (.ref 1)], [], M) = some (28, [some (.ref 1)], [], mm_pi (mm_pi (mm_pi (mm_pi (mm_pi M 1 2 0) 1 3 (M.1 1 1)) 1 4 0) 1 5 0) 1 6 0) := rfl
