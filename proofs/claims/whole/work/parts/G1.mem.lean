/-! THE LAW'S START: the memory that the constructors leave -/
def mj_ad (x mo o b r : Nat) (q1 q2 : Nat → Nat) (p : Nat) : Nat := if p = 0 then x else if p < 84 then q1 p else if p = 84 then mo else if p < 110 then q2 p else if p = 110 then o else if p = 200 then b else r
def mj_M0 (f89 f101 : Nat → Int32) : mm_M := (fun p => if p = 89 then f89 else if p = 101 then f101 else fun _ => 0, fun _ _ => 0, 0)
def mj_all (cs : mm_C) (x mo o : Nat) (q1 q2 : Nat → Nat) (f89 f101 : Nat → Int32) : va_W := (([] ++ mj_w_packs cs x q1) ++ mj_w_model cs mo q2 f89 f101) ++ [(o, .inl (cs.2.1, 1, .inr (.inl (fun _ => 0))))]
theorem mj_tab {x mo o b r : Nat} {q1 q2 : Nat → Nat} (j : Nat) (hj : j < 6) : ([some (q1 50), some (q1 55), some (q1 60), some (q1 65), some (q1 70), some (q1 75)] : List (Option Nat)).getD j none = some (mj_ad x mo o b r q1 q2 (mm_tab j)) := by
  match j, hj with
  | 0, _ => rfl
  | 1, _ => rfl
  | 2, _ => rfl
  | 3, _ => rfl
  | 4, _ => rfl
  | 5, _ => rfl
set_option maxHeartbeats 4000000 in
set_option maxRecDepth 100000 in
theorem mj_wsE {cs : mm_C} {x mo o b r : Nat} {q1 q2 : Nat → Nat} {f89 f101 : Nat → Int32} : (mj_all cs x mo o q1 q2 f89 f101).set 43 (q1 43, .inl (cs.2.2, 6, .inr (.inr (.inr (.inr (fun i => some (mj_ad x mo o b r q1 q2 (mm_tab i)))))))) = mm_ws cs (mj_ad x mo o b r q1 q2) (mj_M0 f89 f101) := rfl
theorem mj_memP {D : va_G} {cs : mm_C} {x mo o b r : Nat} {q1 q2 : Nat → Nat} {f89 f101 : Nat → Int32} {H : Heap} (hP : va_P D mm_cl (mj_all cs x mo o q1 q2 f89 f101) H) : va_P D mm_cl (mm_ws cs (mj_ad x mo o b r q1 q2) (mj_M0 f89 f101)) H := by
  rw [← mj_wsE]
  exact mj_ext hP (k := 43) (a := q1 43) (n := 6) (cA := cs.2.2) rfl (fun j hj => mj_tab j hj)
theorem mj_memD {A : Nat → Prop} {cs : mm_C} {x mo o b r : Nat} {q1 q2 : Nat → Nat} {f89 f101 : Nat → Int32} (hD : va_D A (mj_all cs x mo o q1 q2 f89 f101)) : va_D A (mm_ws cs (mj_ad x mo o b r q1 q2) (mj_M0 f89 f101)) := by
  rw [← mj_wsE]
  exact hD.set (p := 43) rfl
theorem mj_memA {A : Nat → Prop} {cs : mm_C} {ad : Nat → Nat} {M : mm_M} (hD : va_D A (mm_ws cs ad M)) : ∀ p, p < mm_nP → A (ad p) := by
  intro p hp
  have hl : mm_sh.length = mm_nP := by decide +kernel
  have h1 : ∃ sh, mm_nth mm_sh p = some sh := by
    rw [mm_nth_eq, List.getElem?_eq_getElem (by omega)]
    exact ⟨_, rfl⟩
  obtain ⟨sh, hsh⟩ := h1
  exact hD.2 p (ad p, mm_el cs ad M p sh) (by rw [mm_ws_at, hsh]; rfl)
theorem mj_memU {A : Nat → Prop} {cs : mm_C} {ad : Nat → Nat} {M : mm_M} (hD : va_D A (mm_ws cs ad M)) : ∀ M2, va_D (fun q => ∃ p, p < mm_nP ∧ q = ad p) (mm_ws cs ad M2) := by
  intro M2
  have hl : mm_sh.length = mm_nP := by decide +kernel
  refine ⟨fun i j p q h1 h2 e => ?_, fun k q h => ?_⟩
  · rw [mm_ws_at, Option.map_eq_some_iff] at h1 h2
    obtain ⟨s1, a1, rfl⟩ := h1
    obtain ⟨s2, a2, rfl⟩ := h2
    exact hD.1 i j (ad i, mm_el cs ad M i s1) (ad j, mm_el cs ad M j s2) (by rw [mm_ws_at, a1]; rfl) (by rw [mm_ws_at, a2]; rfl) e
  · rw [mm_ws_at, Option.map_eq_some_iff] at h
    obtain ⟨s1, a1, rfl⟩ := h
    refine ⟨k, ?_, rfl⟩
    rw [mm_nth_eq] at a1
    have := (List.getElem?_eq_some_iff.mp a1).1
    omega
theorem mj_J0 {f89 f101 : Nat → Int32} (g1 : ∀ i, i < 19 → f89 i = mm_row i) (g2 : f101 0 = 100) (g3 : f101 1 = 64) : mq_J (mj_M0 f89 f101) (mj_M0 f89 f101) := by
  have e1 : ((mj_M0 f89 f101).1 1 1).toInt = 0 := rfl
  have e3 : ((mj_M0 f89 f101).1 3 1).toInt = 0 := rfl
  exact ⟨⟨rfl, by omega, by omega, fun j hj => by omega⟩, ⟨rfl, by omega, by omega, fun j hj => by omega⟩, ⟨rfl, rfl, rfl, rfl, rfl, rfl⟩, fun i hi => g1 i hi, g2, g3⟩
