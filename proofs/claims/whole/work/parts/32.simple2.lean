/-! the plain calls, on -/
section
variable {N : Nat} {X M : St}
theorem i32_cases4 {a : Int32} (h : BI a 0 3) : a = 0 ∨ a = 1 ∨ a = 2 ∨ a = 3 := by
  obtain ⟨h1, h2⟩ := h
  rcases (show a.toInt = 0 ∨ a.toInt = 1 ∨ a.toInt = 2 ∨ a.toInt = 3 by omega) with h | h | h | h
  · exact Or.inl (i32_ext (by rw [h]; decide))
  · exact Or.inr (Or.inl (i32_ext (by rw [h]; decide)))
  · exact Or.inr (Or.inr (Or.inl (i32_ext (by rw [h]; decide))))
  · exact Or.inr (Or.inr (Or.inr (i32_ext (by rw [h]; decide))))
theorem inc_I {n : Int32} (h0 : 0 ≤ n.toInt) (h1 : n.toInt < 1000) : (n + 1).toInt = n.toInt + 1 := by
  rw [i32_add (by simp only [Int32.reduceToInt]; omega) (by simp only [Int32.reduceToInt]; omega)]
  simp only [Int32.reduceToInt]
theorem op_gang (a b : Int32) (h : Rel X M) : ∃ r X' M', fX6_gang N X a b = some (r, X') ∧ fM_gang N M a b = some (r, M') ∧ Rel X' M' := by
  obtain ⟨hD, ⟨hRT, hBT, hTC⟩, hB, hF⟩ := id h
  obtain ⟨e0, e1, e2⟩ := id hRT
  obtain ⟨b0, b1, b2⟩ := id hBT
  rcases within_cases N a 10 999 with ⟨w1, v1⟩ | ⟨w1, v1⟩
  · rcases within_cases N b 10 999 with ⟨w2, v2⟩ | ⟨w2, v2⟩
    · refine ⟨1, s1 (s1 X 6 a) 7 b, s1 (s1 M 5 a) 6 b, ?_, ?_, hD, ⟨⟨rfl, rfl, e2⟩, ⟨v1, v2, b2⟩, hTC⟩, ⟨RB_fr hB.1 (fun _ _ => rfl) rfl rfl rfl rfl rfl rfl rfl rfl rfl rfl rfl, hB.2⟩, hF⟩
      · simp [fX6_gang, fX5_changeGang, wX_M, w1, w2, bd1, bd2]
      · simp [fM_gang, w1, w2, bd1]
    · refine ⟨-1, X, M, ?_, ?_, h⟩
      · simp [fX6_gang, fX5_changeGang, wX_M, w1, w2, bd1, bd2]
      · simp [fM_gang, w1, w2, bd1]
  · refine ⟨-1, X, M, ?_, ?_, h⟩
    · simp [fX6_gang, fX5_changeGang, wX_M, w1, bd1, bd2]
    · simp [fM_gang, w1, bd1]
theorem isPart_1 {a b : Int32} (h : (BI a 0 1 ∧ BI b 0 99) ∨ (BI a 2 4 ∧ BI b 1 9999)) : fM_isPart N a b = some 1 := by
  unfold BI at h
  rcases h with ⟨h1, h2⟩ | ⟨h1, h2⟩
  · have w1 : fM_within N a 0 1 = some 1 := wi1 h1.1 h1.2
    have w2 : fM_within N b 0 99 = some 1 := wi1 h2.1 h2.2
    simp [fM_isPart, w1, w2, bd1]
  · have w1 : fM_within N a 0 1 = some 0 := wi0 (Or.inr (by simp only [Int32.reduceToInt]; omega))
    have w2 : fM_within N a 2 4 = some 1 := wi1 h1.1 h1.2
    have w3 : fM_within N b 1 9999 = some 1 := wi1 h2.1 h2.2
    simp [fM_isPart, w1, w2, w3, bd1]
theorem isPart_0 {a b : Int32} (h : ¬ ((BI a 0 1 ∧ BI b 0 99) ∨ (BI a 2 4 ∧ BI b 1 9999))) : fM_isPart N a b = some 0 := by
  unfold BI at h
  rcases within_cases N a 0 1 with ⟨w1, v1⟩ | ⟨w1, v1⟩
  · unfold BI at v1
    simp only [Int32.reduceToInt] at v1
    have w2 : fM_within N b 0 99 = some 0 := wi0 (by simp only [Int32.reduceToInt]; omega)
    have w3 : fM_within N a 2 4 = some 0 := wi0 (by simp only [Int32.reduceToInt]; omega)
    simp [fM_isPart, w1, w2, w3, bd1]
  · rcases within_cases N a 2 4 with ⟨w2, v2⟩ | ⟨w2, v2⟩
    · unfold BI at v2
      simp only [Int32.reduceToInt] at v2
      have w3 : fM_within N b 1 9999 = some 0 := wi0 (by simp only [Int32.reduceToInt]; omega)
      simp [fM_isPart, w1, w2, w3, bd1]
    · simp [fM_isPart, w1, w2, bd1]
theorem st2_I (j : Nat) : (st2 j).toInt = if j < 2 then 0 else if j < 5 then 1 else 20 := by
  unfold st2
  split
  · decide
  · split <;> decide
theorem st3_I (j : Nat) : (st3 j).toInt = if j < 2 then 99 else if j < 5 then 9999 else 900 := by
  unfold st3
  split
  · decide
  · split <;> decide
theorem op_part (a b : Int32) (h : Rel X M) : ∃ r X' M', fX6_part N X a b = some (r, X') ∧ fM_part N M a b = some (r, M') ∧ Rel X' M' := by
  obtain ⟨hD, ⟨hRT, hBT, hTC⟩, hB, hF⟩ := id h
  obtain ⟨e0, e1, e2, e3, e4⟩ := id hRT
  obtain ⟨b0, b1, b2, b3, b4, b5, b6⟩ := id hBT
  rcases within_cases N a 0 4 with ⟨w1, v1⟩ | ⟨w1, v1⟩
  · have ca : 0 ≤ a.toInt ∧ a.toInt ≤ 4 := by
      have := ib v1
      simp only [Int32.reduceToInt] at this
      exact this
    have hk := tnI ca.1
    have hk5 : a.toNatClampNeg < 5 := by omega
    have g6 : ∀ x : Option (Int32 × St), gi a 6 x = x := fun x => gi_ok (by omega) (by omega)
    have g5 : ∀ x : Option (Int32 × St), gi a 5 x = x := fun x => gi_ok (by omega) (by omega)
    have iff1 : ((BI a 0 1 ∧ BI b 0 99) ∨ (BI a 2 4 ∧ BI b 1 9999)) ↔ BI b (st2 a.toNatClampNeg).toInt (st3 a.toNatClampNeg).toInt := by
      rw [st2_I, st3_I]
      unfold BI
      by_cases c : a.toNatClampNeg < 2
      · rw [if_pos c, if_pos c]; omega
      · rw [if_neg c, if_neg c, if_pos hk5, if_pos hk5]; omega
    rcases within_cases N b (st2 a.toNatClampNeg) (st3 a.toNatClampNeg) with ⟨w2, v2⟩ | ⟨w2, v2⟩
    · refine ⟨M.2 2 a.toNatClampNeg, sA X 4 a.toNatClampNeg b, sA M 2 a.toNatClampNeg b, ?_, ?_, hD, ⟨⟨e0, e1, e2, e3, ?_⟩, ⟨b0, b1, b2, b3, b4, ?_, ?_⟩, hTC⟩, ⟨RB_fr hB.1 (fun b hb => sA_hi (by omega)) rfl rfl rfl rfl rfl rfl rfl rfl rfl rfl rfl, hB.2⟩, hF⟩
      · simp [fX6_part, fX5_changePart, wX_M, w1, w2, bd1, bd2, g6, e4 _ hk5]
      · simp [fM_part, isPart_1 (iff1.mpr v2), bd1, g5]
      · intro j hj
        show upd (X.2 4) _ b j = upd (M.2 2) _ b j
        by_cases c : j = a.toNatClampNeg
        · rw [c, upd_eq, upd_eq]
        · rw [upd_ne c, upd_ne c]; exact e4 j hj
      · intro j hj
        show BI (upd (M.2 2) _ b j) 0 99
        by_cases c : j = a.toNatClampNeg
        · rw [c, upd_eq]
          rw [st2_I, st3_I, if_pos (by omega), if_pos (by omega)] at v2
          exact v2
        · rw [upd_ne c]; exact b5 j hj
      · intro j hj hj5
        show BI (upd (M.2 2) _ b j) 1 9999
        by_cases c : j = a.toNatClampNeg
        · rw [c, upd_eq]
          rw [st2_I, st3_I, if_neg (by omega), if_pos hk5, if_neg (by omega), if_pos hk5] at v2
          exact v2
        · rw [upd_ne c]; exact b6 j hj hj5
    · refine ⟨-1, X, M, ?_, ?_, h⟩
      · simp [fX6_part, fX5_changePart, wX_M, w1, w2, bd1, bd2, g6]
      · simp [fM_part, isPart_0 (fun z => by have := iff1.mp z; unfold BI at this; omega), bd1]
  · refine ⟨-1, X, M, ?_, ?_, h⟩
    · simp [fX6_part, fX5_changePart, wX_M, w1, bd1, bd2]
    · simp only [Int32.reduceToInt] at v1
      simp [fM_part, isPart_0 (a := a) (b := b) (by unfold BI; omega), bd1]
theorem op_sheet (a b : Int32) (h : Rel X M) : ∃ r X' M', fX6_sheet N X a b = some (r, X') ∧ fM_sheet N M a b = some (r, M') ∧ Rel X' M' := by
  obtain ⟨hD, hT, ⟨hRB, hBB⟩, hF⟩ := id h
  obtain ⟨e0, e1, e2, e3, e4⟩ := id hRB
  obtain ⟨b0, b1, b2, b3⟩ := id hBB
  have c0 := ib b1
  rcases within_cases N a 0 5 with ⟨w1, v1⟩ | ⟨w1, v1⟩
  · rcases within_cases N b 1 20 with ⟨w2, v2⟩ | ⟨w2, v2⟩
    · by_cases c : M.1 9 = 8
      · refine ⟨-2, X, M, ?_, ?_, h⟩
        · simp [fX6_sheet, fX0_addLine, fX0_isPart, wX_M, w1, w2, bd1, bd2, bz, e1, c]
        · simp [fM_sheet, w1, w2, bd1, c]
      · have c1 : (M.1 9).toInt < 8 := by
          have : ¬ (M.1 9).toInt = 8 := fun z => c (i32_ext (by rw [z]; decide))
          omega
        have c2 : M.1 9 < 8 := Int32.lt_iff_toInt_lt.mpr (by simp only [Int32.reduceToInt]; omega)
        have g8 : ∀ x : Option (Int32 × St), gi (M.1 9) 8 x = x := fun x => gi_ok (by omega) (by omega)
        refine ⟨M.1 9 + 1, s1 (sA (sA X 9 (M.1 9).toNatClampNeg a) 10 (M.1 9).toNatClampNeg b) 11 (M.1 9 + 1), s1 (sA (sA M 7 (M.1 9).toNatClampNeg a) 8 (M.1 9).toNatClampNeg b) 9 (M.1 9 + 1), ?_, ?_, ?_⟩
        · simp [fX6_sheet, fX0_addLine, fX0_isPart, wX_M, w1, w2, bd1, bd2, bz, e1, c2, g8]
        · simp [fM_sheet, w1, w2, bd1, c, g8]
        · refine ⟨hD, hT, ⟨⟨e0, rfl, ?_, ?_, fun k j hk hj => ?_⟩, b0, ?_, ?_, b3⟩, hF⟩
          · show upd (X.2 9) _ a = upd (M.2 7) _ a
            rw [e2]
          · show upd (X.2 10) _ b = upd (M.2 8) _ b
            rw [e3]
          · have hx : ∀ z : Nat, 15 ≤ z → (s1 (sA (sA X 9 (M.1 9).toNatClampNeg a) 10 (M.1 9).toNatClampNeg b) 11 (M.1 9 + 1)).2 z = X.2 z := fun z hz => by
              simp only [s1_2]
              rw [sA_hi (by omega), sA_hi (by omega)]
            rw [hx _ (by omega), hx _ (by omega), hx _ (by omega), hx _ (by omega)]
            exact e4 k j hk hj
          · show BI (M.1 9 + 1) 0 8
            unfold BI
            rw [inc_I (by omega) (by omega)]
            omega
          · intro j hj
            exact ⟨push_ok (P := fun z => BI z 0 5) c0.1 (by omega) (fun j hj => (b2 j hj).1) v1 j hj, push_ok (P := fun z => BI z 1 20) c0.1 (by omega) (fun j hj => (b2 j hj).2) v2 j hj⟩
    · refine ⟨-1, X, M, ?_, ?_, h⟩
      · simp [fX6_sheet, fX0_addLine, fX0_isPart, wX_M, w1, w2, bd1, bd2, bz]
      · simp [fM_sheet, w1, w2, bd1]
  · refine ⟨-1, X, M, ?_, ?_, h⟩
    · simp [fX6_sheet, fX0_addLine, fX0_isPart, wX_M, w1, bd1, bd2, bz]
    · simp [fM_sheet, w1, bd1]
theorem op_test (a : Int32) (h : Rel X M) : ∃ r X' M', fX6_test N X a = some (r, X') ∧ fM_test N M a = some (r, M') ∧ Rel X' M' := by
  obtain ⟨hD, hT, hB, ⟨hRF, hBF⟩⟩ := id h
  obtain ⟨e0, e1, e2, e3, e4, e5⟩ := id hRF
  obtain ⟨b0, b1, b2, b3, b4, b5⟩ := id hBF
  have c0 := ib b1
  rcases within_cases N a 1 99 with ⟨w1, v1⟩ | ⟨w1, v1⟩
  · by_cases c : M.1 11 = 12
    · refine ⟨-2, X, M, ?_, ?_, h⟩
      · simp [fX6_test, fX2_addTest, wX_M, w1, bd1, bd2, e1, c]
      · simp [fM_test, w1, bd1, c]
    · have c1 : (M.1 11).toInt < 12 := by
        have : ¬ (M.1 11).toInt = 12 := fun z => c (i32_ext (by rw [z]; decide))
        omega
      have c2 : M.1 11 < 12 := Int32.lt_iff_toInt_lt.mpr (by simp only [Int32.reduceToInt]; omega)
      have g12 : ∀ x : Option (Int32 × St), gi (M.1 11) 12 x = x := fun x => gi_ok (by omega) (by omega)
      refine ⟨(M.1 11 + 1) - 1, s1 (sA X 12 (M.1 11).toNatClampNeg a) 13 (M.1 11 + 1), s1 (sA M 10 (M.1 11).toNatClampNeg a) 11 (M.1 11 + 1), ?_, ?_, ?_⟩
      · simp [fX6_test, fX2_addTest, wX_M, w1, bd1, bd2, e1, c2, g12]
      · simp [fM_test, w1, bd1, c, g12]
      · refine ⟨hD, hT, ⟨RB_fr hB.1 (fun b hb => by simp only [s1_2]; rw [sA_hi (by omega)]) rfl rfl rfl rfl rfl rfl rfl rfl rfl rfl rfl, hB.2⟩, ⟨e0, rfl, e2, e3, ?_, e5⟩, b0, ?_, b2, b3, ?_, b5⟩
        · show upd (X.2 12) _ a = upd (M.2 10) _ a
          rw [e4]
        · show BI (M.1 11 + 1) 0 12
          unfold BI
          rw [inc_I (by omega) (by omega)]
          omega
        · exact push_ok (P := fun z => BI z 1 99) c0.1 (by omega) b4 v1
  · refine ⟨-1, X, M, ?_, ?_, h⟩
    · simp [fX6_test, fX2_addTest, wX_M, w1, bd1, bd2]
    · simp [fM_test, w1, bd1]
end
