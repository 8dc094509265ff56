/-! a set is built, on both sides; the first states -/
section
variable {N : Nat} {M X : St}
def pv (M : St) (j : Nat) : Int32 := if j = 5 then M.1 1 else M.2 2 j
def nM (M : St) (n : Nat) : St := s1 (sA (sA (sA (sA (sA (sA M 4 (6 * n) (pv M 0)) 4 (6 * n + 1) (pv M 1)) 4 (6 * n + 2) (pv M 2)) 4 (6 * n + 3) (pv M 3)) 4 (6 * n + 4) (pv M 4)) 4 (6 * n + 5) (pv M 5)) 8 (nI (n + 1))
theorem setM {n : Nat} (hN : 10 ≤ N) (h8 : M.1 8 = nI n) (hn : n < 10) : fM_set N M = some (nI n, nM M n) := by
  obtain ⟨N0, hN0⟩ : ∃ z, N = z + 7 := ⟨N - 7, by omega⟩
  have hne : ¬ M.1 8 = 10 := by rw [h8]; exact fun z => by have := (nI_eq (b := 10) (by omega) (by decide)).mp z; omega
  have gg' : ∀ j : Nat, j < 6 → ∀ x : Option (Int32 × St), gi (nI (6 * n + j)) 60 x = x := fun j hj x => gi_ok (by rw [nI_toInt (by omega)]; omega) (by rw [nI_toInt (by omega)]; omega)
  have e6 : ∀ j : Nat, j < 6 → 6 * nI n + nI j = nI (6 * n + j) := fun j hj => six hn hj
  have stp : ∀ (j j1 z z1 : Nat) (s : St), j < 5 → j1 = j + 1 → z1 = z + 1 → s.1 8 = nI n → s.2 2 = M.2 2 → ∃ s', s' = sA s 4 (6 * n + j) (pv M j) ∧ fM_set_L14 N z1 (nI j) s = fM_set_L14 N z (nI j1) s' ∧ s'.1 = s.1 ∧ s'.2 2 = M.2 2 := fun j j1 z z1 s hj h1 hz hs h2 => by
    subst h1
    subst hz
    refine ⟨_, rfl, ?_, rfl, by rw [sA_ne (by decide)]; exact h2⟩
    have ep : pv M j = M.2 2 j := if_neg (by omega)
    rw [fM_set_L14.eq_2, if_neg (show ¬ (6 : Int32) ≤ nI j from nI_ge (b := 6) (by omega) (by decide)), if_neg (fun w => by have := (nI_eq (b := 5) (by omega) (by decide)).mp w; omega), hs, e6 j (by omega), gi_ok (by rw [nI_toInt (by omega)]; omega) (by rw [nI_toInt (by omega)]; omega), gg' j (by omega), tn_nI (by omega), tn_nI (by omega), nI_1, h2, ep]
  rw [fM_set, if_neg hne]
  have e0 : fM_set_L14 N N 0 M = fM_set_L14 N (N0 + 7) (nI 0) M := by rw [← hN0]; rfl
  obtain ⟨t0, d0, r0, a0, b0⟩ := stp 0 1 (N0 + 6) (N0 + 7) M (by decide) rfl rfl h8 rfl
  obtain ⟨t1, d1, r1, a1, b1⟩ := stp 1 2 (N0 + 5) (N0 + 6) t0 (by decide) rfl rfl (by rw [a0]; exact h8) b0
  obtain ⟨t2, d2, r2, a2, b2⟩ := stp 2 3 (N0 + 4) (N0 + 5) t1 (by decide) rfl rfl (by rw [a1, a0]; exact h8) b1
  obtain ⟨t3, d3, r3, a3, b3⟩ := stp 3 4 (N0 + 3) (N0 + 4) t2 (by decide) rfl rfl (by rw [a2, a1, a0]; exact h8) b2
  obtain ⟨t4, d4, r4, a4, b4⟩ := stp 4 5 (N0 + 2) (N0 + 3) t3 (by decide) rfl rfl (by rw [a3, a2, a1, a0]; exact h8) b3
  have h84 : t4.1 = M.1 := by rw [a4, a3, a2, a1, a0]
  have r5 : fM_set_L14 N (N0 + 2) (nI 5) t4 = fM_set_L14 N (N0 + 1) (nI 6) (sA t4 4 (6 * n + 5) (pv M 5)) := by
    rw [fM_set_L14.eq_2, if_neg (show ¬ (6 : Int32) ≤ nI 5 by decide), if_pos (show nI 5 = 5 from rfl), h84, h8, e6 5 (by omega), gg' 5 (by omega), tn_nI (by omega), nI_1]
    rfl
  have h85 : (sA t4 4 (6 * n + 5) (pv M 5)).1 8 = nI n := by show t4.1 8 = _; rw [h84, h8]
  rw [e0, r0, r1, r2, r3, r4, r5, fM_set_L14.eq_2, if_pos (show (6 : Int32) ≤ nI 6 by decide), h85, nI_1, nI_pred n]
  unfold nM
  rw [d4, d3, d2, d1, d0]
  rfl
theorem nM_4 {n z : Nat} : (nM M n).2 4 z = if z = 6 * n + 5 then pv M 5 else if z = 6 * n + 4 then pv M 4 else if z = 6 * n + 3 then pv M 3 else if z = 6 * n + 2 then pv M 2 else if z = 6 * n + 1 then pv M 1 else if z = 6 * n then pv M 0 else M.2 4 z := by
  unfold nM
  rw [s1_2]
  simp only [sA_at]
theorem nM_new {n j : Nat} (hj : j < 6) : (nM M n).2 4 (6 * n + j) = pv M j := by
  rw [nM_4]
  rcases (show j = 0 ∨ j = 1 ∨ j = 2 ∨ j = 3 ∨ j = 4 ∨ j = 5 by omega) with rfl | rfl | rfl | rfl | rfl | rfl
  all_goals (repeat (first | rw [if_pos (by omega)] | rw [if_neg (by omega)]))
theorem nM_old {n k j : Nat} (hk : k ≠ n) (hj : j < 6) : (nM M n).2 4 (6 * k + j) = M.2 4 (6 * k + j) := by
  rw [nM_4, if_neg (by omega), if_neg (by omega), if_neg (by omega), if_neg (by omega), if_neg (by omega), if_neg (by omega)]
theorem nM_ne {n a : Nat} (ha : a ≠ 4) : (nM M n).2 a = M.2 a := by
  unfold nM
  rw [s1_2, sA_ne ha, sA_ne ha, sA_ne ha, sA_ne ha, sA_ne ha, sA_ne ha]
theorem pv_B (hD : BD M) (hT : BT M) {j : Nat} (hj : j < 6) : BI (pv M j) (st2 j).toInt (st3 j).toInt := by
  unfold pv
  by_cases c : j = 5
  · rw [if_pos c, c]
    exact hD.2.2.1
  · rw [if_neg c, st2_I, st3_I]
    by_cases c2 : j < 2
    · rw [if_pos c2, if_pos c2]
      exact hT.2.2.2.2.2.1 j c2
    · rw [if_neg c2, if_neg c2, if_pos (by omega), if_pos (by omega)]
      exact hT.2.2.2.2.2.2 j (by omega) (by omega)
theorem clp_id {j : Nat} {v : Int32} (h : BI v (st2 j).toInt (st3 j).toInt) : clp j v = v := by
  unfold BI at h
  unfold clp jmax jmin
  by_cases c1 : v < st3 j
  · rw [if_pos c1]
    by_cases c2 : st2 j < v
    · rw [if_pos c2]
    · rw [if_neg c2]
      have h4 : ¬ (st2 j).toInt < v.toInt := fun z => c2 (Int32.lt_iff_toInt_lt.mpr z)
      exact i32_ext (by omega)
  · rw [if_neg c1]
    have h3 : ¬ v.toInt < (st3 j).toInt := fun z => c1 (Int32.lt_iff_toInt_lt.mpr z)
    have e : v = st3 j := i32_ext (by omega)
    rw [← e]
    by_cases c2 : st2 j < v
    · rw [if_pos c2]
    · rw [if_neg c2]
      have h4 : ¬ (st2 j).toInt < v.toInt := fun z => c2 (Int32.lt_iff_toInt_lt.mpr z)
      exact i32_ext (by omega)
theorem op_set (hN : 10 ≤ N) (h : Rel X M) : ∃ r X' M', fX6_set N X = some (r, X') ∧ fM_set N M = some (r, M') ∧ Rel X' M' := by
  have hP := Rel_oP h
  have hrow := oP_row h
  obtain ⟨hD, ⟨hRT, hBT, hTC⟩, ⟨hRB, hBB⟩, hF⟩ := id h
  obtain ⟨n, h8, n1, n2⟩ := BIn hBB.1 (by decide)
  have hX10 : X.1 10 = nI n := hRB.1.trans h8
  have hnI : (nI n).toInt = (n : Int) := nI_toInt (by omega)
  by_cases c : n = 10
  · have e8 : M.1 8 = 10 := by rw [h8, c]; rfl
    have e10 : X.1 10 = 10 := by rw [hX10, c]; rfl
    refine ⟨-2, X, M, ?_, ?_, h⟩
    · simp [fX6_set, fX0_build, bd2, e10]
    · simp [fM_set, e8]
  · have hn10 : n < 10 := by omega
    have hlt : nI n < 10 := nI_lt (b := 10) (by omega) (by decide)
    have hoP : (oP X).1 10 = nI n := hX10
    have hcl : ((oP X).1 10).toNatClampNeg = n := by rw [hoP, tn_nI (by omega)]
    refine ⟨nI n, nS (oP X), nM M n, ?_, setM hN h8 hn10, ?_⟩
    · have g : ∀ x : Option (Int32 × St), gi (nI n) 10 x = x := fun x => gi_ok (by omega) (by omega)
      have e : nI n + 1 - 1 = nI n := by rw [nI_1]; exact nI_pred n
      simp [fX6_set, fX0_build, bd2, hX10, hlt, g, e]
    · have lo : ∀ a : Nat, a < 15 → (nS (oP X)).2 a = (oP X).2 a := fun a ha => nS_lo (by omega)
      have s1' : ∀ k : Nat, k ≠ 10 → (nS (oP X)).1 k = (oP X).1 k := fun k hk => upd_ne hk
      have m1' : ∀ k : Nat, k ≠ 8 → (nM M n).1 k = M.1 k := fun k hk => upd_ne hk
      obtain ⟨hD', ⟨hRT', hBT', hTC'⟩, ⟨hRB', hBB'⟩, hF'⟩ := id hP
      have h8' : (nM M n).1 8 = nI (n + 1) := rfl
      have hx10 : (nS (oP X)).1 10 = nI (n + 1) := by
        show (oP X).1 10 + 1 = _
        rw [hoP, nI_1]
      refine ⟨?_, ?_, ⟨⟨?_, ?_, ?_, ?_, ?_⟩, ?_⟩, ?_⟩
      · unfold RD BD at *
        rw [s1' 0 (by decide), lo 0 (by decide), lo 1 (by decide), lo 2 (by decide), m1' 0 (by decide), m1' 1 (by decide), m1' 2 (by decide), m1' 3 (by decide), m1' 4 (by decide), nM_ne (a := 0) (by decide), nM_ne (a := 1) (by decide)]
        exact hD'
      · unfold RT BT TC at *
        rw [s1' 6 (by decide), s1' 7 (by decide), s1' 8 (by decide), s1' 9 (by decide), lo 4 (by decide), lo 5 (by decide), lo 8 (by decide), m1' 5 (by decide), m1' 6 (by decide), m1' 7 (by decide), nM_ne (a := 2) (by decide), nM_ne (a := 3) (by decide)]
        exact ⟨hRT', hBT', hTC'⟩
      · rw [hx10, h8']
      · rw [s1' 11 (by decide), m1' 9 (by decide)]
        exact hRB'.2.1
      · rw [lo 9 (by decide), nM_ne (a := 7) (by decide)]
        exact hRB'.2.2.1
      · rw [lo 10 (by decide), nM_ne (a := 8) (by decide)]
        exact hRB'.2.2.2.1
      · intro k j hk hj
        rw [h8', nI_toInt (by omega)] at hk
        rw [nM_ne (a := 5) (by decide), nM_ne (a := 6) (by decide)]
        by_cases ck : k = n
        · subst ck
          have z := hBB.2.2.2.1 k j (by rw [h8, hnI]; omega) hn10 hj
          have ex : ∀ b : Nat, (nS (oP X)).2 b = if b = 15 + 4 * k ∨ b = 18 + 4 * k then (oP X).2 4 else if b = 16 + 4 * k ∨ b = 17 + 4 * k then (fun _ => 0) else (oP X).2 b := fun b => by
            show (if b = 15 + 4 * ((oP X).1 10).toNatClampNeg ∨ _ then _ else if _ then _ else _) = _
            rw [hcl]
          have er : (oP X).2 4 j = pv M j := by
            rcases (show j = 0 ∨ j = 1 ∨ j = 2 ∨ j = 3 ∨ j = 4 ∨ j = 5 by omega) with rfl | rfl | rfl | rfl | rfl | rfl
            · exact hrow.1
            · exact hrow.2.1
            · exact hrow.2.2.1
            · exact hrow.2.2.2.1
            · exact hrow.2.2.2.2.1
            · exact hrow.2.2.2.2.2
          rw [ex, ex, ex, ex, if_pos (Or.inl rfl), if_neg (by omega), if_pos (Or.inl rfl), if_neg (by omega), if_pos (Or.inr rfl), if_pos (Or.inr rfl), nM_new hj, er, z.1, z.2, Int32.add_zero, Int32.add_zero, clp_id (pv_B hD.2 hBT hj)]
          exact ⟨rfl, rfl, rfl, rfl⟩
        · have ex : ∀ b : Nat, b < 15 + 4 * n → (nS (oP X)).2 b = (oP X).2 b := fun b hb => nS_lo (by rw [hcl]; exact hb)
          rw [ex _ (by omega), ex _ (by omega), ex _ (by omega), ex _ (by omega), nM_old ck hj]
          exact hRB'.2.2.2.2 k j (by rw [h8, hnI]; omega) hj
      · unfold BB
        rw [h8', m1' 9 (by decide), nM_ne (a := 7) (by decide), nM_ne (a := 8) (by decide), nM_ne (a := 5) (by decide), nM_ne (a := 6) (by decide), nI_toInt (by omega)]
        refine ⟨BI_nI (by omega) (by omega) (by omega), hBB.2.1, hBB.2.2.1, fun k j hk hk10 hj => hBB.2.2.2.1 k j (by rw [h8, hnI]; omega) hk10 hj, fun k j hk hj => ?_⟩
        by_cases ck : k = n
        · subst ck
          rw [nM_new hj]
          exact pv_B hD.2 hBT hj
        · rw [nM_old ck hj]
          exact hBB.2.2.2.2 k j (by rw [h8, hnI]; omega) hj
      · unfold RF BF at *
        rw [s1' 12 (by decide), s1' 13 (by decide), s1' 14 (by decide), lo 11 (by decide), lo 12 (by decide), lo 13 (by decide), m1' 10 (by decide), m1' 11 (by decide), m1' 12 (by decide), nM_ne (a := 9) (by decide), nM_ne (a := 10) (by decide), nM_ne (a := 11) (by decide)]
        exact hF'
end
