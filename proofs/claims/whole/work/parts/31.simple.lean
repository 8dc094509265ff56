/-! the plain calls -/
section
variable {N : Nat} {X M : St}
theorem ib {x : Int32} {lo hi : Int} (h : BI x lo hi) : lo ≤ x.toInt ∧ x.toInt ≤ hi := h
theorem s1_2 {σ : St} {k : Nat} {v : Int32} : (s1 σ k v).2 = σ.2 := rfl
theorem RB_fr {X X' M M' : St} (h : RB X M) (e5 : ∀ b : Nat, 15 ≤ b → X'.2 b = X.2 b) (e1 : X'.1 10 = X.1 10) (e2 : X'.1 11 = X.1 11) (e3 : X'.2 9 = X.2 9) (e4 : X'.2 10 = X.2 10) (m1 : M'.1 8 = M.1 8) (m2 : M'.1 9 = M.1 9) (m3 : M'.2 4 = M.2 4) (m4 : M'.2 5 = M.2 5) (m5 : M'.2 6 = M.2 6) (m6 : M'.2 7 = M.2 7) (m7 : M'.2 8 = M.2 8) : RB X' M' := by
  obtain ⟨h1, h2, h3, h4, h5⟩ := h
  refine ⟨by rw [e1, m1, h1], by rw [e2, m2, h2], by rw [e3, m6, h3], by rw [e4, m7, h4], fun k j hk hj => ?_⟩
  rw [m1] at hk
  rw [e5 (15 + 4 * k) (by omega), e5 (16 + 4 * k) (by omega), e5 (17 + 4 * k) (by omega), e5 (18 + 4 * k) (by omega), m3, m4, m5]
  exact h5 k j hk hj
/-- a new number at the end of a row -/
theorem push_ok {f : Nat → Int32} {n v : Int32} {P : Int32 → Prop} (h0 : 0 ≤ n.toInt) (hn : n.toInt < 1000) (h : ∀ j : Nat, (j : Int) < n.toInt → P (f j)) (hv : P v) : ∀ j : Nat, (j : Int) < (n + 1).toInt → P (upd f n.toNatClampNeg v j) := by
  intro j hj
  rw [i32_add (by simp only [Int32.reduceToInt]; omega) (by simp only [Int32.reduceToInt]; omega)] at hj
  simp only [Int32.reduceToInt] at hj
  have hk := tnI h0
  by_cases e : j = n.toNatClampNeg
  · rw [e, upd_eq]; exact hv
  · rw [upd_ne e]
    exact h j (by omega)
theorem op_station (a b : Int32) (h : Rel X M) : ∃ r X' M', fX6_station N X a b = some (r, X') ∧ fM_station N M a b = some (r, M') ∧ Rel X' M' := by
  obtain ⟨⟨hRD, hBD⟩, hT, hB, hF⟩ := id h
  obtain ⟨e0, e1, e2, e3⟩ := id hRD
  obtain ⟨b0, b1, b2⟩ := id hBD
  have c0 := ib b0
  rcases within_cases N a 100 3000 with ⟨w1, v1⟩ | ⟨w1, v1⟩
  · rcases within_cases N b 1 999 with ⟨w2, v2⟩ | ⟨w2, v2⟩
    · by_cases c : M.1 0 = 20
      · refine ⟨-2, X, M, ?_, ?_, h⟩
        · simp [fX6_station, fX1_addStation, wX_M, w1, w2, bd1, bd2, e0, c]
        · simp [fM_station, w1, w2, bd1, c]
      · have c1 : (M.1 0).toInt < 20 := by
          have : ¬ (M.1 0).toInt = 20 := fun z => c (i32_ext (by rw [z]; decide))
          omega
        have c2 : M.1 0 < 20 := Int32.lt_iff_toInt_lt.mpr (by simp only [Int32.reduceToInt]; omega)
        refine ⟨(M.1 0 + 1) - 1, s1 (sA (sA X 0 (M.1 0).toNatClampNeg a) 1 (M.1 0).toNatClampNeg b) 0 (M.1 0 + 1), s1 (sA (sA M 0 (M.1 0).toNatClampNeg a) 1 (M.1 0).toNatClampNeg b) 0 (M.1 0 + 1), ?_, ?_, ?_⟩
        · simp only [fX6_station, fX1_addStation, wX_M, w1, w2, bd1, bd2, e0]
          rw [if_neg (by decide), if_neg (by decide), if_pos c2, gi_ok (by omega) (by omega), gi_ok (by omega) (by omega)]
        · simp only [fM_station, w1, w2, bd1]
          rw [if_neg (by decide), if_neg (by decide), if_neg c, gi_ok (by omega) (by omega), gi_ok (by omega) (by omega)]
        · refine ⟨⟨⟨rfl, ?_, ?_, e3⟩, ⟨?_, ?_, b2⟩⟩, hT, ⟨RB_fr hB.1 (fun b hb => by simp only [s1_2]; rw [sA_hi (by omega), sA_hi (by omega)]) rfl rfl rfl rfl rfl rfl rfl rfl rfl rfl rfl, hB.2⟩, hF⟩
          · show upd (X.2 0) _ a = upd (M.2 0) _ a
            rw [e1]
          · show upd (X.2 1) _ b = upd (M.2 1) _ b
            rw [e2]
          · show BI (M.1 0 + 1) 0 20
            unfold BI
            rw [i32_add (by simp only [Int32.reduceToInt]; omega) (by simp only [Int32.reduceToInt]; omega)]
            simp only [Int32.reduceToInt]
            omega
          · intro j hj
            exact ⟨push_ok (P := fun z => BI z 100 3000) c0.1 (by omega) (fun j hj => (b1 j hj).1) v1 j hj, push_ok (P := fun z => BI z 1 999) c0.1 (by omega) (fun j hj => (b1 j hj).2) v2 j hj⟩
    · refine ⟨-1, X, M, ?_, ?_, h⟩
      · simp [fX6_station, fX1_addStation, wX_M, w1, w2, bd1, bd2]
      · simp [fM_station, w1, w2, bd1]
  · refine ⟨-1, X, M, ?_, ?_, h⟩
    · simp [fX6_station, fX1_addStation, wX_M, w1, bd1, bd2]
    · simp [fM_station, w1, bd1]
end
