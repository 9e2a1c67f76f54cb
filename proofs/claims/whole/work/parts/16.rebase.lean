/-! THE SAME WALK, AS IF THE METHOD BEGAN HERE -/
section MB
variable {p : Program} {l : Launch} {e : Env} {R : Room} {s : State} {m : MethodId} {args : Array Value} {below : List Frame} {meth : Method} {c : Code} {T : State} {locs : List Loc} {cells slots : Nat}
theorem mm_rebase (X : Stand p l e R s m args below meth c T locs cells slots) {kc ks : Nat} (hc : cells + kc ≤ R.cells) (hs : slots + ks ≤ R.slots) :
    Stand p l e { frames := R.frames, cells := kc, slots := ks, locals := R.locals } (T.setFrames (.invoking m args :: below)) m args below meth c T [] 0 0 := by
  obtain ⟨g₀, hfr⟩ := X.frames_eq
  have hcur : T.cur < T.threads.size := State.cur_lt_of_frames hfr
  have hf0 : (T.setFrames (.invoking m args :: below)).frames = .invoking m args :: below := State.frames_setFrames _ hcur
  have hm0 : (T.setFrames (.invoking m args :: below)).vm.method? m = some meth := X.method'
  have hself : (T.setFrames (.invoking m args :: below)).setFrames T.frames = T := by
    rw [State.setFrames_setFrames]
    obtain ⟨th, hth, -⟩ := State.frames_cons hfr
    exact State.setFrames_self hth
  refine ⟨X.admits, X.cas, X.clock, hf0, ?_, ?_, hm0, X.code, X.here, X.tail, State.WarmedH.refl (T.setFrames (.invoking m args :: below)), by rw [State.stackLimits_setFrames], by rw [State.stackBytes_setFrames], ?_⟩
  · have h := X.room
    have hb := X.book
    have h1 := X.heapSize
    have h2 := X.used
    have hli := State.localsInUse_invoking X.frames X.method X.code
    have hli0 := State.localsInUse_invoking hf0 hm0 X.code
    simp only [State.hasRoom, Bool.and_eq_true, decide_eq_true_eq] at h ⊢
    obtain ⟨⟨⟨⟨a1, a2, a3, a4, a5, a6⟩, a7⟩, a8⟩, a9⟩ := h
    rw [hli0, hf0, State.stackLimits_setFrames, State.stackBytes_setFrames, X.limits, X.bytes]
    rw [hli] at a1 a4 a5
    rw [X.frames] at a2 a3
    refine ⟨⟨⟨⟨a1, a2, a3, a4, a5, a6⟩, ?_⟩, ?_⟩, hb⟩
    · show T.heap.size + kc ≤ _
      omega
    · show T.slotsUsed + ks ≤ _
      omega
  · have h := X.hears
    have hmm : (T.setFrames (.invoking m args :: below)).vm.method? = s.vm.method? := funext X.warmed.alike.method?
    unfold State.hears at h ⊢
    have hcd : ∀ x, (T.setFrames (.invoking m args :: below)).code? x = s.code? x := fun x => by rw [State.code?_eq, State.code?_eq, hmm]
    cases below with
    | nil => dsimp only at h ⊢; rw [hmm]; exact h
    | cons f r => cases f <;> dsimp only at h ⊢ <;> first | (rw [hcd]; exact h) | (rw [hmm]; exact h) | exact h
  · obtain ⟨th, hth, -⟩ := State.frames_cons hf0
    have h := (State.sameButNew.refl (T.setFrames (.invoking m args :: below)) hth).setFrames T.frames (State.cur_lt_of_frames hf0)
    rw [hself] at h
    exact h
end MB
