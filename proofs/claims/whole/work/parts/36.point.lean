/-! the call point -/
section
variable {N : Nat} {X M : St}
theorem ix_loop {pl : Int32} (hRT : RT X M) {np : Nat} (hnp : M.1 7 = nI np) (h5 : np ≤ 5) : ∀ (d k n : Nat), k + d = np → d < n → (∀ j : Nat, j < k → M.2 3 j ≠ pl) → ((∀ j : Nat, j < np → M.2 3 j ≠ pl) ∧ fX5_indexOfPoint_L2 N X pl n (nI k) = some (-1)) ∨ (∃ i : Nat, i < np ∧ M.2 3 i = pl ∧ fX5_indexOfPoint_L2 N X pl n (nI k) = some (nI i)) := by
  have hX8 : X.1 8 = nI np := hRT.2.2.1.trans hnp
  have hX5 : X.2 5 = M.2 3 := hRT.2.2.2.1
  intro d
  induction d with
  | zero =>
    intro k n hk hn hj
    obtain ⟨n, rfl⟩ : ∃ z, n = z + 1 := ⟨n - 1, by omega⟩
    left
    refine ⟨fun j h => hj j (by omega), ?_⟩
    rw [fX5_indexOfPoint_L2.eq_2, if_pos (by rw [hX8]; exact nI_le (by omega) (by omega))]
  | succ d ih =>
    intro k n hk hn hj
    obtain ⟨n, rfl⟩ : ∃ z, n = z + 1 := ⟨n - 1, by omega⟩
    have hkI : (nI k).toInt = (k : Int) := nI_toInt (by omega)
    rw [fX5_indexOfPoint_L2.eq_2, if_neg (by rw [hX8]; exact nI_ge (by omega) (by omega)), gi_ok (by omega) (by omega), tn_nI (by omega), hX5, nI_1]
    by_cases c : M.2 3 k = pl
    · right
      exact ⟨k, by omega, c, by rw [if_pos c]⟩
    · rw [if_neg c]
      exact ih (k + 1) n (by omega) (by omega) (fun j h => by
        rcases (show j < k ∨ j = k by omega) with h | h
        · exact hj j h
        · rw [h]; exact c)
theorem ptM_no {pl is : Int32} {np : Nat} (hnp : M.1 7 = nI np) (h5 : np ≤ 5) : ∀ (d k n : Nat) (v : Int32), k + d = np → (∀ j : Nat, k ≤ j → j < np → M.2 3 j ≠ pl) → fM_point_L23 N pl is (n + d) v (nI k) M = fM_point_L23 N pl is n v (nI np) M := by
  intro d
  induction d with
  | zero =>
    intro k n v hk _
    have e : k = np := by omega
    rw [e]
    rfl
  | succ d ih =>
    intro k n v hk hj
    have hkI : (nI k).toInt = (k : Int) := nI_toInt (by omega)
    rw [show n + (d + 1) = (n + d) + 1 by omega, fM_point_L23.eq_2, if_neg (by rw [hnp]; exact nI_ge (by omega) (by omega)), gi_ok (by omega) (by omega), tn_nI (by omega), if_neg (hj k (by omega) (by omega)), nI_1]
    exact ih (k + 1) n v (by omega) (fun j h1 h2 => hj j (by omega) h2)
theorem ptM_at {pl is : Int32} {np i : Nat} (hnp : M.1 7 = nI np) (h5 : np ≤ 5) (hi : i < np) (ei : M.2 3 i = pl) (hd : ∀ j : Nat, j < np → M.2 3 j = pl → j = i) : ∀ (d k n : Nat) (v : Int32), k + d = np → k ≤ i → fM_point_L23 N pl is (n + d) v (nI k) M = fM_point_L23 N pl is n (nI i) (nI np) M := by
  intro d
  induction d with
  | zero =>
    intro k n v hk hki
    omega
  | succ d ih =>
    intro k n v hk hki
    have hkI : (nI k).toInt = (k : Int) := nI_toInt (by omega)
    rw [show n + (d + 1) = (n + d) + 1 by omega, fM_point_L23.eq_2, if_neg (by rw [hnp]; exact nI_ge (by omega) (by omega)), gi_ok (by omega) (by omega), tn_nI (by omega), nI_1]
    by_cases c : M.2 3 k = pl
    · have e : k = i := hd k (by omega) c
      rw [if_pos c, ← e]
      exact ptM_no hnp h5 d (k + 1) n (nI k) (by omega) (fun j h1 h2 h3 => by have := hd j h2 h3; omega)
    · rw [if_neg c]
      refine ih (k + 1) n v (by omega) ?_
      rcases (show k < i ∨ k = i by omega) with h | h
      · omega
      · exact absurd (h ▸ ei) c
set_option maxHeartbeats 1000000 in
theorem op_point (a b : Int32) (hN : 100 ≤ N) (h : Rel X M) : ∃ r X' M', fX6_point N X a b = some (r, X') ∧ fM_point N M a b = some (r, M') ∧ Rel X' M' := by
  obtain ⟨hD, ⟨hRT, hBT, hTC⟩, hB, hF⟩ := id h
  obtain ⟨e0, e1, e2, e3, e4⟩ := id hRT
  obtain ⟨b0, b1, b2, b3, b4, b5⟩ := id hBT
  obtain ⟨np, hnp, h5⟩ := points_n hBT
  have hX8 : X.1 8 = nI np := e2.trans hnp
  have hpI : (nI np).toInt = (np : Int) := nI_toInt (by omega)
  rcases place_cases N a with ⟨w, v⟩ | w
  · rcases within_cases N b 0 1 with ⟨w2, v2⟩ | ⟨w2, v2⟩
    · have hb01 : b = 0 ∨ b = 1 := by
        unfold BI at v2
        simp only [Int32.reduceToInt] at v2
        rcases (show b.toInt = 0 ∨ b.toInt = 1 by omega) with z | z
        · exact Or.inl (i32_ext (by rw [z]; decide))
        · exact Or.inr (i32_ext (by rw [z]; decide))
      have eM : fM_point N M a b = fM_point_L23 N a b N (-1) (nI 0) M := by
        simp only [fM_point, w, w2, bd1]
        rfl
      obtain ⟨n, hn⟩ : ∃ n, N = (n + 1) + np := ⟨N - np - 1, by omega⟩
      have hend : M.1 7 ≤ nI np := by rw [hnp]; exact nI_le (by omega) (by omega)
      rcases ix_loop (N := N) (pl := a) hRT hnp h5 np 0 N (by omega) (by omega) (fun j hj => by omega) with ⟨hno, hx⟩ | ⟨i, hi, ei, hx⟩
      · have hM : fM_point N M a b = fM_point_L23 N a b (n + 1) (-1) (nI np) M := by
          rw [eM]
          conv => lhs; rw [show fM_point_L23 N a b N (-1) (nI 0) M = fM_point_L23 N a b ((n + 1) + np) (-1) (nI 0) M by rw [← hn]]
          exact ptM_no hnp h5 np 0 (n + 1) (-1) (by omega) (fun j _ h2 => hno j h2)
        have hxx : fX5_indexOfPoint N X a = some (-1) := hx
        rcases hb01 with rfl | rfl
        · refine ⟨0, X, M, ?_, ?_, h⟩
          · simp [fX6_point, fX5_changePoint, isPlace_X, wX_M, w, w2, bd1, bd2, hxx]
          · rw [hM, fM_point_L23.eq_2, if_pos hend]
            simp
        · by_cases c5 : np = 5
          · have hM5 : M.1 7 = 5 := by rw [hnp, c5]; rfl
            refine ⟨-2, X, M, ?_, ?_, h⟩
            · have : X.1 8 = 5 := e2.trans hM5
              simp [fX6_point, fX5_changePoint, isPlace_X, wX_M, w, w2, bd1, bd2, hxx, this]
            · rw [hM, fM_point_L23.eq_2, if_pos hend]
              simp [hM5]
          · have hlt : nI np < 5 := nI_lt (b := 5) (by omega) (by decide)
            have hne : ¬ nI np = 5 := fun z => c5 ((nI_eq (b := 5) (by omega) (by decide)).mp z)
            have g5 : ∀ x : Option (Int32 × St), gi (nI np) 5 x = x := fun x => gi_ok (by omega) (by omega)
            refine ⟨0, s1 (sA X 5 np a) 8 (nI np + 1), s1 (sA M 3 np a) 7 (nI np + 1), ?_, ?_, hD, ⟨⟨e0, e1, rfl, ?_, e4⟩, ⟨b0, b1, ?_, ?_, ?_, b5⟩, hTC⟩, ⟨RB_fr hB.1 (fun b hb => by simp only [s1_2]; rw [sA_hi (by omega)]) rfl rfl rfl rfl rfl rfl rfl rfl rfl rfl rfl, hB.2⟩, hF⟩
            · simp [fX6_point, fX5_changePoint, isPlace_X, wX_M, w, w2, bd1, bd2, hxx, hX8, hlt, g5, tn_nI (show np < 2147483648 by omega)]
            · rw [hM, fM_point_L23.eq_2, if_pos hend]
              simp [hnp, hne, g5, tn_nI (show np < 2147483648 by omega)]
            · show upd (X.2 5) np a = upd (M.2 3) np a
              rw [e3]
            · show BI (nI np + 1) 0 5
              rw [nI_1]
              exact BI_nI (by omega) (by omega) (by omega)
            · intro j hj
              have hj' : (j : Int) < (nI np + 1).toInt := hj
              rw [nI_1, nI_toInt (by omega)] at hj'
              show BI (upd (M.2 3) np a j) 0 100
              by_cases c : j = np
              · rw [c, upd_eq]; exact v
              · rw [upd_ne c]; exact b3 j (by rw [hnp]; omega)
            · intro i j hi hj
              have hi' : (i : Int) < (nI np + 1).toInt := hi
              have hj' : (j : Int) < (nI np + 1).toInt := hj
              rw [nI_1, nI_toInt (by omega)] at hi' hj'
              show upd (M.2 3) np a i = upd (M.2 3) np a j → i = j
              intro he
              by_cases c1 : i = np
              · by_cases c2 : j = np
                · omega
                · rw [c1, upd_eq, upd_ne c2] at he
                  exact absurd he.symm (hno j (by omega))
              · by_cases c2 : j = np
                · rw [c2, upd_eq, upd_ne c1] at he
                  exact absurd he (hno i (by omega))
                · rw [upd_ne c1, upd_ne c2] at he
                  exact b4 i j (by rw [hnp]; omega) (by rw [hnp]; omega) he
      · have huq : ∀ j : Nat, j < np → M.2 3 j = a → j = i := fun j hj he => b4 j i (by rw [hnp]; omega) (by rw [hnp]; omega) (he.trans ei.symm)
        have hM : fM_point N M a b = fM_point_L23 N a b (n + 1) (nI i) (nI np) M := by
          rw [eM]
          conv => lhs; rw [show fM_point_L23 N a b N (-1) (nI 0) M = fM_point_L23 N a b ((n + 1) + np) (-1) (nI 0) M by rw [← hn]]
          exact ptM_at hnp h5 hi ei huq np 0 (n + 1) (-1) (by omega) (by omega)
        have hxx : fX5_indexOfPoint N X a = some (nI i) := hx
        have hi0 : (0 : Int32) ≤ nI i := nI_pos' (by omega)
        have hi1 : ¬ nI i < 0 := nI_pos (by omega)
        have hi2 : ¬ nI i = -1 := fun z => by rw [z] at hi0; exact absurd hi0 (by decide)
        rcases hb01 with rfl | rfl
        · have hsub : nI np - 1 = nI (np - 1) := pk_sub (a := np) (b := 1) (by omega)
          have hiI : (nI i).toInt = (i : Int) := nI_toInt (by omega)
          have hqI : (nI (np - 1)).toInt = ((np - 1 : Nat) : Int) := nI_toInt (by omega)
          have g5 : ∀ x : Option (Int32 × St), gi (nI (np - 1)) 5 x = x := fun x => gi_ok (by omega) (by omega)
          have g6 : ∀ x : Option (Int32 × St), gi (nI i) 5 x = x := fun x => gi_ok (by omega) (by omega)
          refine ⟨1, sA (s1 X 8 (nI (np - 1))) 5 i (M.2 3 (np - 1)), sA (s1 M 7 (nI (np - 1))) 3 i (M.2 3 (np - 1)), ?_, ?_, hD, ⟨⟨e0, e1, rfl, ?_, e4⟩, ⟨b0, b1, ?_, ?_, ?_, b5⟩, hTC⟩, ⟨RB_fr hB.1 (fun b hb => by rw [sA_hi (by omega)]; rfl) rfl rfl rfl rfl rfl rfl rfl rfl rfl rfl rfl, hB.2⟩, hF⟩
          · simp [fX6_point, fX5_changePoint, isPlace_X, wX_M, w, w2, bd1, bd2, hxx, hi2, hX8, hsub, g5, g6, e3, tn_nI (show i < 2147483648 by omega), tn_nI (show np - 1 < 2147483648 by omega)]
          · rw [hM, fM_point_L23.eq_2, if_pos hend]
            simp [hi0, hi1, hnp, hsub, g5, g6, tn_nI (show i < 2147483648 by omega), tn_nI (show np - 1 < 2147483648 by omega)]
          · show upd (X.2 5) i _ = upd (M.2 3) i _
            rw [e3]
          · show BI (nI (np - 1)) 0 5
            exact BI_nI (by omega) (by omega) (by omega)
          · intro j hj
            have hj' : (j : Int) < (nI (np - 1)).toInt := hj
            rw [hqI] at hj'
            show BI (upd (M.2 3) i _ j) 0 100
            by_cases c : j = i
            · rw [c, upd_eq]; exact b3 (np - 1) (by rw [hnp]; omega)
            · rw [upd_ne c]; exact b3 j (by rw [hnp]; omega)
          · intro x y hx hy
            have hx' : (x : Int) < (nI (np - 1)).toInt := hx
            have hy' : (y : Int) < (nI (np - 1)).toInt := hy
            rw [hqI] at hx' hy'
            show upd (M.2 3) i _ x = upd (M.2 3) i _ y → x = y
            intro he
            by_cases c1 : x = i
            · by_cases c2 : y = i
              · omega
              · rw [c1, upd_eq, upd_ne c2] at he
                have := b4 (np - 1) y (by rw [hnp]; omega) (by rw [hnp]; omega) he
                omega
            · by_cases c2 : y = i
              · rw [c2, upd_eq, upd_ne c1] at he
                have := b4 x (np - 1) (by rw [hnp]; omega) (by rw [hnp]; omega) he
                omega
              · rw [upd_ne c1, upd_ne c2] at he
                exact b4 x y (by rw [hnp]; omega) (by rw [hnp]; omega) he
        · refine ⟨1, X, M, ?_, ?_, h⟩
          · simp [fX6_point, fX5_changePoint, isPlace_X, wX_M, w, w2, bd1, bd2, hxx, hi2]
          · rw [hM, fM_point_L23.eq_2, if_pos hend]
            simp [hi0]
    · refine ⟨-1, X, M, ?_, ?_, h⟩
      · simp [fX6_point, fX5_changePoint, isPlace_X, wX_M, w, w2, bd1, bd2]
      · simp [fM_point, w, w2, bd1]
  · refine ⟨-1, X, M, ?_, ?_, h⟩
    · simp [fX6_point, fX5_changePoint, isPlace_X, wX_M, w, bd1, bd2]
    · simp [fM_point, w, bd1]
end
