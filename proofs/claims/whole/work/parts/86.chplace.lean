/-! FORM 10: one place, and the loop of places -/
theorem mq_cplace {M N : mm_M} {lc lp pb st r0 r1 r2 r3 k : Int32} {n : Int64} (hW : mq_W M N) (hc : mq_cx M N) (hz : mq_cz lc lp pb n st r0 r1 r2 r3 M N) (hd : mq_cd lc lp pb n st r0 r1 r2 r3 (M.1 3 1).toInt) (hne : (M.1 3 1).toInt ≠ n.toInt) : mq_2 (fun M (t : Int32 ⊕ Unit) N => (∃ b, t = .inl b ∧ mq_X M N) ∨ (∃ v, t = .inr v ∧ mq_X M N)) (mm_B (mf_161 (((0 : Int32) + ((16 : Int32) * (M.1 80 9))) + ((M.1 3 1) &&& ((mm_shl (1 : Int32) (M.1 80 8)) - (1 : Int32)))) M) (fun r1 M2 => if r1 = 0 then (mm_B (mf_165 M2) (fun _ M3 => (some (.inl (.inl ((1 : Int32), (k + (1 : Int32)))), M3) : mm_O ((Int32 × Int32) ⊕ Unit)))) else (mm_B (mf_161 ((192 : Int32) + (M2.1 80 9)) M2) (fun r4 M5 => if r4 = 0 then (mm_B (mf_166 ((M.1 3 1) &&& ((mm_shl (1 : Int32) (M.1 80 8)) - (1 : Int32))) M5) (fun r6 M7 => some (.inl (.inl (r6, (k + (1 : Int32)))), M7))) else (mm_B (mf_167 ((M.1 3 1) &&& ((mm_shl (1 : Int32) (M.1 80 8)) - (1 : Int32))) M5) (fun _ M8 => some (.inl (.inl ((1 : Int32), (k + (1 : Int32)))), M8))))))) (mm_B (mf_238 n N) (fun r1 M2 => some (.inl (.inl r1), M2))) (fun r M2 t N2 => ∃ m, r = .inl (m, k + 1) ∧ t = .inl m ∧ (m = 0 ∧ mq_W M2 N2 ∧ mq_cx M2 N2 ∨ m = 1 ∧ mq_cI lc lp pb n (M.1 3 1).toInt M2 N2)) := by
  have hd0 := hd
  obtain ⟨⟨a, b, cc, ha, hb, hpb, hab, hcc⟩, ⟨n0, n1⟩, ⟨d3, d3'⟩, d4, d5, d6, d7, d8, d9⟩ := hd
  obtain ⟨u1, u2, u3, u4⟩ := hW.1.2.1
  have hst : st.toInt = st.toInt.toNat := by omega
  have hs11 : st.toInt.toNat ≤ 11 := by omega
  have z3 := hz.1.2.2.1
  have z5 := hz.1.2.2.2.2.1
  have y3 := hz.2.2.2.1
  have y4 := hz.2.2.2.2.1
  have e238 : mf_238 n N = mm_B (mf_233 (((0 : Int32) + ((16 : Int32) * (N.1 84 35))) + ((N.1 84 4) &&& ((mm_shl (1 : Int32) (N.1 84 39)) - (1 : Int32)))) N) (fun r1 M2 => if r1 = 0 then (mm_B (mf_241 M2) (fun _ M3 => mq_K241 M3)) else (mm_B (mf_233 ((192 : Int32) + (M2.1 84 35)) M2) (fun r4 M5 => if r4 = 0 then (mm_B (mf_242 (432 : Int32) ((N.1 84 4) &&& ((mm_shl (1 : Int32) (N.1 84 39)) - (1 : Int32))) M5) (mq_R242 n)) else (mm_B (mf_233 ((204 : Int32) + (M5.1 84 35)) M5) (mq_RR n ((N.1 84 4) &&& ((mm_shl (1 : Int32) (N.1 84 39)) - (1 : Int32)))))))) := rfl
  rw [e238, z3, z5, y3, y4, ← u1, mq_Ba]
  clear e238
  have hpl := mi_lowb (x := M.1 3 1) hpb (by omega)
  generalize M.1 3 1 &&& (mm_shl 1 pb - 1) = p at hpl
  have hpw : 2 ^ cc ≤ 2 ^ 4 := Nat.pow_le_pow_right (by decide) (by omega)
  have hpos : 0 < 2 ^ cc := Nat.pow_pos (by decide)
  have hp : p.toInt = (((M.1 3 1).toInt.toNat % 2 ^ cc : Nat) : Int) := by rw [hpl, Int.natCast_emod, Int.toNat_of_nonneg u2]
  have hP : (M.1 3 1).toInt.toNat % 2 ^ cc < 16 := Nat.lt_of_lt_of_le (Nat.mod_lt _ hpos) hpw
  generalize (M.1 3 1).toInt.toNat % 2 ^ cc = P at hp hP
  have e16 : (16 * st).toInt = ((16 * st.toInt.toNat : Nat) : Int) := by rw [mi_mul]; simp only [Int32.reduceToInt]; omega
  have ea : (0 + 16 * st).toInt = ((16 * st.toInt.toNat : Nat) : Int) := by rw [mi_add, e16]; simp only [Int32.reduceToInt]; omega
  have ea2 : (0 + 16 * st + p).toInt = ((16 * st.toInt.toNat + P : Nat) : Int) := by rw [mi_add, ea, hp]; omega
  obtain ⟨x1, x2, x3⟩ := mq_mpx (b := 0 + 16 * st + p) ea2 (by omega) (by rw [ea2, mq_mp_a (by omega)])
  refine mq_2_B (mq_2_K (mq_cbit hW hc (i := 0 + 16 * st + p) (j := 0 + 16 * st + p) x1 x2 x3) mk_161 mk_233) ?_ ?_
  · rintro v M2 b N2 ⟨⟨rfl, v1, w2, c2⟩, k1, k2⟩
    have hz2 := mq_cz_kp hz k1 k2 rfl rfl rfl
    have hsz : M2.1 3 1 = M.1 3 1 := (k1 3 1 rfl).1
    have hd2 : mq_cd lc lp pb n st r0 r1 r2 r3 (M2.1 3 1).toInt := by rw [hsz]; exact hd0
    by_cases c : v = 0
    · rw [if_pos c, if_pos c]
      refine mq_2_B (mq_clit w2 c2 hz2 hd2) ?_ ?_
      · rintro _ M3 b N3 ⟨rfl, w3, c3, ⟨st2, t0, t1, hz3⟩, hs3⟩
        refine mq_2_ret ⟨1, rfl, rfl, .inr ⟨rfl, w3, c3, by rw [hs3, hsz]; omega, st2, r0, r1, r2, r3, hz3, ⟨a, b, cc, ha, hb, hpb, hab, hcc⟩, ⟨n0, n1⟩, ⟨t0, by omega⟩, d4, d5, d6, d7, fun q => by omega, fun q => ?_⟩⟩
        have := d9 q
        rw [hs3, hsz]
        omega
      · intro M3 b N3 hx
        exact mq_1_ret (.inl ⟨_, rfl, hx⟩)
    · rw [if_neg c, if_neg c, hz2.1.2.2.2.2.1, hz2.2.2.2.2.1, mq_Ba]
      obtain ⟨x1, x2, x3⟩ := mq_mp1 hst hs11 192 192 192 192 rfl rfl (by decide) (by decide) (by rw [mq_mp_a (by omega)])
      refine mq_2_B (mq_2_K (mq_cbit w2 c2 (i := 192 + st) (j := 192 + st) x1 x2 x3) mk_161 mk_233) ?_ ?_
      · rintro v M3 b N3 ⟨⟨rfl, v1, w3, c3⟩, k3, k4⟩
        have hz3 := mq_cz_kp hz2 k3 k4 rfl rfl rfl
        have hsz3 : M3.1 3 1 = M2.1 3 1 := (k3 3 1 rfl).1
        have hd3 : mq_cd lc lp pb n st r0 r1 r2 r3 (M3.1 3 1).toInt := by rw [hsz3, hsz]; exact hd0
        by_cases g : v = 0
        · rw [if_pos g, if_pos g]
          refine mq_2_B (mq_cmatch w3 c3 hz3 hd3 hp hP) ?_ ?_
          · rintro r M4 b N4 ⟨rfl, q⟩
            rw [hsz3, hsz] at q
            exact mq_2_ret ⟨r, rfl, rfl, q⟩
          · intro M4 b N4 hx
            exact mq_1_ret (.inl ⟨_, rfl, hx⟩)
        · rw [if_neg g, if_neg g]
          refine mq_2_B (mq_crep w3 c3 hz3 hd3 hp hP (by rw [hsz3, hsz]; exact hne)) ?_ ?_
          · rintro _ M4 b N4 ⟨rfl, q⟩
            rw [hsz3, hsz] at q
            exact mq_2_ret ⟨1, rfl, rfl, .inr ⟨rfl, q⟩⟩
          · intro M4 b N4 hx
            exact mq_1_ret (.inl ⟨_, rfl, hx⟩)
      · rintro M3 b N3 ⟨⟨_, hx⟩, _, _⟩
        refine mq_1_B (P := fun _ N => mq_X M3 N) ?_ (fun _ _ hx => mq_1_ret (.inl ⟨_, rfl, hx⟩))
        refine mq_1_ite (fun _ => ?_) (fun _ => ?_)
        · exact mq_1_B (mq_xd hx (fun z => md_242 z mq_ob_refl)) (fun _ _ hx => mq_R242d hx)
        · exact mq_1_B (mq_xd hx (fun z => md_233 z)) (fun _ _ hx => mq_RRd hx)
  · rintro M2 b N2 ⟨⟨_, hx⟩, _, _⟩
    refine mq_1_B (P := fun _ N => mq_X M2 N) ?_ (fun _ _ hx => mq_1_ret (.inl ⟨_, rfl, hx⟩))
    refine mq_1_ite (fun _ => ?_) (fun _ => ?_)
    · refine mq_1_B (mq_xd hx (fun z => ?_)) (fun _ _ hx => mq_xd hx (fun z => mq_K241d mq_ob_refl))
      have sz0 : 0 ≤ (N2.1 84 4).toInt := z.2.2.2.1
      have sz1 : (N2.1 84 4).toInt ≤ 16384 := z.2.2.2.2.1
      have dj22 : ∀ bf : Int32, mq_D N2 (mf_241_j22 bf N2) := by
        intro bf
        unfold mf_241_j22 mf_241_j76
        refine mq_d_ite (fun _ => ?_) (fun _ => ?_)
        · refine mq_d_ite (fun _ => ?_) (fun _ => mq_d_w z mq_ob_refl ?_)
          · exact mq_d_B (md_241_L118 z mq_ob_refl) (fun _ _ g => md_241_j193 z g)
          · exact mq_d_B (md_241_L118 z mq_ob_refl) (fun _ _ g => md_241_j193 z g)
        · refine mq_d_ite (fun _ => ?_) (fun _ => mq_d_w z mq_ob_refl ?_)
          · exact mq_d_B (md_241_L118 z mq_ob_refl) (fun _ _ g => md_241_j193 z g)
          · exact mq_d_B (md_241_L118 z mq_ob_refl) (fun _ _ g => md_241_j193 z g)
      unfold mf_241
      refine mq_d_ite (fun _ => dj22 _) (fun q => ?_)
      have : (N2.1 84 4).toInt ≠ 0 := fun h => q (Int32.toInt_inj.mp h)
      have e : (N2.1 84 4 - 1).toInt = (N2.1 84 4).toInt - 1 := by rw [mi_sub]; simp only [Int32.reduceToInt]; omega
      rw [if_pos (mq_inr (by omega) (by omega))]
      exact dj22 _
    · refine mq_1_B (mq_xd hx (fun z => md_233 z)) (fun _ N3 hx => mq_1_ite (fun _ => ?_) (fun _ => ?_))
      · exact mq_1_B (mq_xd hx (fun z => md_242 z mq_ob_refl)) (fun _ _ hx => mq_R242d hx)
      · exact mq_1_B (mq_xd hx (fun z => md_233 z)) (fun _ _ hx => mq_RRd hx)
def mq_cJ (lc lp pb : Int32) (n : Int64) (M N : mm_M) : Prop := mq_W M N ∧ mq_cx M N ∧ ∃ st r0 r1 r2 r3, mq_cz lc lp pb n st r0 r1 r2 r3 M N ∧ mq_cd lc lp pb n st r0 r1 r2 r3 (M.1 3 1).toInt
theorem mq_cloop {M N : mm_M} {lc lp pb : Int32} {n : Int64} (h : mq_cJ lc lp pb n M N) : mq_2 mq_XE (mf_159_L42 (1, 0) M) (mf_237_L219 n 1 N) (fun _ M2 _ N2 => mq_W M2 N2 ∧ mq_cx M2 N2) := by
  unfold mf_159_L42 mf_237_L219
  refine mq_2_L (I := fun (a : Int32 × Int32) M2 (b : Int32) N2 => b = a.1 ∧ (a.1 = 0 ∧ mq_W M2 N2 ∧ mq_cx M2 N2 ∨ a.1 = 1 ∧ mq_cJ lc lp pb n M2 N2 ∧ 0 ≤ a.2.toInt ∧ a.2.toInt ≤ (M2.1 3 1).toInt)) (J := fun M (_ : Int32) N => mq_X M N) (m := fun (a : Int32 × Int32) M2 => if a.1 = 0 then 0 else (16385 - (M2.1 3 1).toInt).toNat) ?_ ?_ ⟨rfl, .inr ⟨rfl, h, by decide, h.1.1.2.1.2.1⟩⟩
  · rintro ⟨mo, k⟩ M2 b N2 ⟨rfl, hI⟩
    dsimp only at hI
    unfold mf_159_b42 mf_237_b219
    dsimp only
    rcases hI with ⟨rfl, w2, c2⟩ | ⟨rfl, ⟨w2, c2, st, r0, r1, r2, r3, hz, hd⟩, k0, k1⟩
    · rw [if_pos rfl, if_pos rfl]
      refine mq_2_il (fun _ => ?_) (fun _ => ?_)
      · exact mq_2_ret (.inr ⟨_, _, rfl, rfl, w2, c2⟩)
      · exact mq_2_ret (.inr ⟨_, _, rfl, rfl, w2, c2⟩)
    · obtain ⟨u1, u2, u3, u4⟩ := w2.1.2.1
      rw [if_neg (show ¬ 16384 < k from by rw [Int32.lt_iff_toInt_lt]; simp only [Int32.reduceToInt]; omega), if_neg (show ¬ (1 : Int32) = 0 from by decide), if_neg (show ¬ (1 : Int32) = 0 from by decide), if_pos w2.1.2.2.2.2.1, hz.1.2.2.2.1, ← u1]
      by_cases c : (M2.1 3 1).toInt64 = n
      · rw [if_pos c, if_pos c]
        exact mq_2_ret (.inr ⟨_, _, rfl, rfl, w2, c2⟩)
      · rw [if_neg c, if_neg c]
        have hne : (M2.1 3 1).toInt ≠ n.toInt := by
          intro q
          apply c
          apply Int64.toInt_inj.mp
          rw [Int32.toInt_toInt64]
          exact q
        refine mq_2_mono (mq_cplace (k := k) w2 c2 hz hd hne) ?_ (fun _ _ _ q => q)
        rintro r M3 t N3 ⟨m, rfl, rfl, hq⟩
        refine .inl ⟨_, _, rfl, rfl, ⟨rfl, ?_⟩, ?_⟩
        · rcases hq with ⟨rfl, w3, c3⟩ | ⟨rfl, w3, c3, hs3, st2, q0, q1, q2, q3, hz3, hd3⟩
          · exact .inl ⟨rfl, w3, c3⟩
          · have e : (k + 1).toInt = k.toInt + 1 := by rw [mi_add]; simp only [Int32.reduceToInt]; omega
            exact .inr ⟨rfl, ⟨w3, c3, st2, q0, q1, q2, q3, hz3, hd3⟩, by dsimp only; omega, by dsimp only; omega⟩
        · rw [if_neg (show ¬ (1 : Int32) = 0 from by decide)]
          rcases hq with ⟨rfl, w3, c3⟩ | ⟨rfl, w3, c3, hs3, st2, q0, q1, q2, q3, hz3, hd3⟩
          · rw [if_pos rfl]; omega
          · rw [if_neg (show ¬ (1 : Int32) = 0 from by decide)]
            have := w3.1.2.1.2.2.1
            omega
  · intro M2 b N2 hx
    exact mq_xd hx (fun z => md_237_L219 z mq_ob_refl)
