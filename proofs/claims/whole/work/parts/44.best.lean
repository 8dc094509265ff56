/-! best, plan, count -/
section
variable {N : Nat} {M X : St}
theorem best_loop {ord ns A S C : Nat} (hN : 100 ≤ N) (hRD : RD X M) (hB : BD M) (ho : M.1 3 = nI ord) (h1 : 1 ≤ ord) (h5 : ord ≤ 5) (hs : M.1 0 = nI ns) (h20 : ns ≤ 20) (hA : 20 ≤ A) (hC1 : 1 ≤ C) (hC : C ≤ 200) (hL : A + S * (C - 1) ≤ 900) : ∀ (d k n : Nat) (b w : Int32) (s : St), k + d = C → 1 ≤ k → d < n → DX s X → ∃ r s', fX1_bestMiddle_L61 N (nI A) (nI S) (nI C) n b w (nI k) s = some (r, s') ∧ fM_best_L56 N M (nI A) (nI S) (nI C) n b w (nI k) = some r ∧ DX s' X := by
  intro d
  induction d with
  | zero =>
    intro k n b w s hk h1k hn h
    obtain ⟨n, rfl⟩ : ∃ z, n = z + 1 := ⟨n - 1, by omega⟩
    exact ⟨b, s, by rw [fX1_bestMiddle_L61.eq_2, if_pos (nI_le (by omega) (by omega))], by rw [fM_best_L56.eq_2, if_pos (nI_le (by omega) (by omega))], h⟩
  | succ d ih =>
    intro k n b w s hk h1k hn h
    obtain ⟨n, rfl⟩ : ∃ z, n = z + 1 := ⟨n - 1, by omega⟩
    have hSk : S * k ≤ S * (C - 1) := Nat.mul_le_mul_left S (by omega)
    have em : nI A + nI S * nI k = nI (A + S * k) := by rw [pk_mul, nI_add]
    have hm : BI (nI (A + S * k)) 20 900 := BI_nI (by omega) (by omega) (by omega)
    obtain ⟨s', e, ds⟩ := lo_X (N := N) hN hRD hB hm ho h1 h5 hs h20 h
    have eM := lo_M (N := N) (m := nI (A + S * k)) hN ho h5 hs h20
    rw [fX1_bestMiddle_L61.eq_2, fM_best_L56.eq_2, if_neg (nI_ge (by omega) (by omega)), if_neg (nI_ge (by omega) (by omega)), em, e, eM, nI_1]
    simp only [bd1, bd2]
    by_cases c : w ≤ loS M (nI (A + S * k)) ord ns
    · rw [if_pos c, if_pos c]
      exact ih (k + 1) n b w s' (by omega) (by omega) (by omega) ds
    · rw [if_neg c, if_neg c]
      exact ih (k + 1) n _ _ s' (by omega) (by omega) (by omega) ds
theorem op_best (a s c : Int32) (hN : 300 ≤ N) (h : Rel X M) : ∃ r X' M', fX6_best N X a s c = some (r, X') ∧ lf M (fM_best N M a s c) = some (r, M') ∧ Rel X' M' := by
  obtain ⟨⟨hRD, hBD⟩, _⟩ := id h
  obtain ⟨ns, ord, hs, h20, ho, h1, h5⟩ := dial_n hBD
  rcases within_cases N a 20 900 with ⟨w1, v1⟩ | ⟨w1, v1⟩
  · rcases within_cases N s 1 99 with ⟨w2, v2⟩ | ⟨w2, v2⟩
    · rcases within_cases N c 1 200 with ⟨w3, v3⟩ | ⟨w3, v3⟩
      · obtain ⟨A, rfl, a1, a2⟩ := BIn v1 (by decide)
        obtain ⟨S, rfl, s1, s2⟩ := BIn v2 (by decide)
        obtain ⟨C, rfl, c1, c2⟩ := BIn v3 (by decide)
        simp only [Int32.reduceToInt] at a1 a2 s1 s2 c1 c2
        have ec : nI C - 1 = nI (C - 1) := pk_sub (a := C) (b := 1) (by omega)
        have hb : S * (C - 1) ≤ 99 * 199 := Nat.mul_le_mul (by omega) (by omega)
        have el : nI A + nI S * (nI C - 1) = nI (A + S * (C - 1)) := by rw [ec, pk_mul, nI_add]
        by_cases cl : A + S * (C - 1) ≤ 900
        · have cl' : nI A + nI S * (nI C - 1) ≤ 900 := by rw [el]; exact nI_le (b := 900) cl (by decide)
          have hm : BI (nI A) 20 900 := BI_nI (by omega) (by omega) (by omega)
          obtain ⟨s', e, ds⟩ := lo_X (N := N) (by omega) hRD hBD hm ho h1 h5 hs h20 (DX_rf (X := X))
          have eM := lo_M (N := N) (m := nI A) (by omega) ho h5 hs h20
          obtain ⟨r, s2', e1, e2, d2⟩ := best_loop (N := N) (A := A) (S := S) (C := C) (by omega) hRD hBD ho h1 h5 hs h20 (by omega) (by omega) (by omega) cl (C - 1) 1 N (nI A) (loS M (nI A) ord ns) s' (by omega) (by omega) (by omega) ds
          have e1' : fX1_bestMiddle_L61 N (nI A) (nI S) (nI C) N (nI A) (loS M (nI A) ord ns) 1 s' = some (r, s2') := e1
          have e2' : fM_best_L56 N M (nI A) (nI S) (nI C) N (nI A) (loS M (nI A) ord ns) 1 = some r := e2
          refine ⟨r, s2', M, ?_, ?_, Rel_DX h d2⟩
          · simp [fX6_best, fX1_bestMiddle, wX_M, w1, w2, w3, bd1, bd2, cl', e, e1']
          · simp [fM_best, fM_isMiddle, w1, w2, w3, bd1, bz, cl', eM, e2', lf]
        · have cl' : ¬ nI A + nI S * (nI C - 1) ≤ 900 := by rw [el]; exact nI_ge (a := 900) (by omega) (by omega)
          refine ⟨-1, X, M, ?_, ?_, h⟩
          · simp [fX6_best, fX1_bestMiddle, wX_M, w1, w2, w3, bd1, bd2, cl']
          · simp [fM_best, fM_isMiddle, w1, w2, w3, bd1, bz, cl', lf]
      · refine ⟨-1, X, M, ?_, ?_, h⟩
        · simp [fX6_best, fX1_bestMiddle, wX_M, w1, w2, w3, bd1, bd2]
        · simp [fM_best, fM_isMiddle, w1, w2, w3, bd1, bz, lf]
    · refine ⟨-1, X, M, ?_, ?_, h⟩
      · simp [fX6_best, fX1_bestMiddle, wX_M, w1, w2, bd1, bd2]
      · simp [fM_best, fM_isMiddle, w1, w2, bd1, bz, lf]
  · refine ⟨-1, X, M, ?_, ?_, h⟩
    · simp [fX6_best, fX1_bestMiddle, wX_M, w1, bd1, bd2]
    · simp [fM_best, fM_isMiddle, w1, bd1, bz, lf]
theorem op_plan (a b : Int32) (h : Rel X M) : ∃ r X' M', fX6_plan N X a b = some (r, X') ∧ fM_plan N M a b = some (r, M') ∧ Rel X' M' := by
  obtain ⟨⟨hRD, hBD⟩, hT, hB, hF⟩ := id h
  obtain ⟨e0, e1, e2, e3, e4, e5, e6⟩ := id hRD
  obtain ⟨b0, b1, b2, b3, b4, b5⟩ := id hBD
  have fr : ∀ (j : Nat) (v : Int32), ∀ z : Nat, 15 ≤ z → (sA X 2 j v).2 z = X.2 z := fun j v z hz => sA_hi (by omega)
  by_cases hc : BI a 0 3
  · rcases i32_cases4 hc with rfl | rfl | rfl | rfl
    · rcases within_cases N b 20 900 with ⟨w, v⟩ | ⟨w, v⟩
      · refine ⟨M.1 1, sA X 2 0 b, s1 M 1 b, ?_, ?_, ⟨⟨e0, e1, e2, rfl, e4, e5, e6⟩, b0, b1, v, b3, b4, b5⟩, hT, ⟨RB_fr hB.1 (fr 0 b) rfl rfl rfl rfl rfl rfl rfl rfl rfl rfl rfl, hB.2⟩, hF⟩
        · have w' : fM_within N b (st0 (0 : Int32).toNatClampNeg) (st1 (0 : Int32).toNatClampNeg) = some 1 := w
          have ew : fM_within N 0 0 3 = some 1 := rfl
          have e3' : X.2 2 (0 : Int32).toNatClampNeg = M.1 1 := e3
          simp only [fX6_plan, fX1_change, wX_M, ew, bd1, w', bd2, e3']
          rfl
        · simp [fM_plan, fM_isMiddle, w, bd1, bz]
      · refine ⟨-1, X, M, ?_, ?_, h⟩
        · have w' : fM_within N b (st0 (0 : Int32).toNatClampNeg) (st1 (0 : Int32).toNatClampNeg) = some 0 := w
          have ew : fM_within N 0 0 3 = some 1 := rfl
          simp only [fX6_plan, fX1_change, wX_M, ew, bd1, w', bd2]
          rfl
        · simp [fM_plan, fM_isMiddle, w, bd1, bz]
    · rcases within_cases N b 0 1 with ⟨w, v⟩ | ⟨w, v⟩
      · refine ⟨M.1 2, sA X 2 1 b, s1 M 2 b, ?_, ?_, ⟨⟨e0, e1, e2, e3, rfl, e5, e6⟩, b0, b1, b2, v, b4, b5⟩, hT, ⟨RB_fr hB.1 (fr 1 b) rfl rfl rfl rfl rfl rfl rfl rfl rfl rfl rfl, hB.2⟩, hF⟩
        · have w' : fM_within N b (st0 (1 : Int32).toNatClampNeg) (st1 (1 : Int32).toNatClampNeg) = some 1 := w
          have ew : fM_within N 1 0 3 = some 1 := rfl
          have e3' : X.2 2 (1 : Int32).toNatClampNeg = M.1 2 := e4
          simp only [fX6_plan, fX1_change, wX_M, ew, bd1, w', bd2, e3']
          rfl
        · simp [fM_plan, w, bd1]
      · refine ⟨-1, X, M, ?_, ?_, h⟩
        · have w' : fM_within N b (st0 (1 : Int32).toNatClampNeg) (st1 (1 : Int32).toNatClampNeg) = some 0 := w
          have ew : fM_within N 1 0 3 = some 1 := rfl
          simp only [fX6_plan, fX1_change, wX_M, ew, bd1, w', bd2]
          rfl
        · simp [fM_plan, w, bd1]
    · rcases within_cases N b 1 5 with ⟨w, v⟩ | ⟨w, v⟩
      · refine ⟨M.1 3, sA X 2 2 b, s1 M 3 b, ?_, ?_, ⟨⟨e0, e1, e2, e3, e4, rfl, e6⟩, b0, b1, b2, b3, v, b5⟩, hT, ⟨RB_fr hB.1 (fr 2 b) rfl rfl rfl rfl rfl rfl rfl rfl rfl rfl rfl, hB.2⟩, hF⟩
        · have w' : fM_within N b (st0 (2 : Int32).toNatClampNeg) (st1 (2 : Int32).toNatClampNeg) = some 1 := w
          have ew : fM_within N 2 0 3 = some 1 := rfl
          have e3' : X.2 2 (2 : Int32).toNatClampNeg = M.1 3 := e5
          simp only [fX6_plan, fX1_change, wX_M, ew, bd1, w', bd2, e3']
          rfl
        · simp [fM_plan, w, bd1]
      · refine ⟨-1, X, M, ?_, ?_, h⟩
        · have w' : fM_within N b (st0 (2 : Int32).toNatClampNeg) (st1 (2 : Int32).toNatClampNeg) = some 0 := w
          have ew : fM_within N 2 0 3 = some 1 := rfl
          simp only [fX6_plan, fX1_change, wX_M, ew, bd1, w', bd2]
          rfl
        · simp [fM_plan, w, bd1]
    · rcases within_cases N b 0 50 with ⟨w, v⟩ | ⟨w, v⟩
      · refine ⟨M.1 4, sA X 2 3 b, s1 M 4 b, ?_, ?_, ⟨⟨e0, e1, e2, e3, e4, e5, rfl⟩, b0, b1, b2, b3, b4, v⟩, hT, ⟨RB_fr hB.1 (fr 3 b) rfl rfl rfl rfl rfl rfl rfl rfl rfl rfl rfl, hB.2⟩, hF⟩
        · have w' : fM_within N b (st0 (3 : Int32).toNatClampNeg) (st1 (3 : Int32).toNatClampNeg) = some 1 := w
          have ew : fM_within N 3 0 3 = some 1 := rfl
          have e3' : X.2 2 (3 : Int32).toNatClampNeg = M.1 4 := e6
          simp only [fX6_plan, fX1_change, wX_M, ew, bd1, w', bd2, e3']
          rfl
        · simp [fM_plan, w, bd1]
      · refine ⟨-1, X, M, ?_, ?_, h⟩
        · have w' : fM_within N b (st0 (3 : Int32).toNatClampNeg) (st1 (3 : Int32).toNatClampNeg) = some 0 := w
          have ew : fM_within N 3 0 3 = some 1 := rfl
          simp only [fX6_plan, fX1_change, wX_M, ew, bd1, w', bd2]
          rfl
        · simp [fM_plan, w, bd1]
  · have w : fM_within N a 0 3 = some 0 := wi0 (by unfold BI at hc; simp only [Int32.reduceToInt]; omega)
    have n0 : ¬ a = 0 := fun z => hc (by rw [z]; unfold BI; decide)
    have n1 : ¬ a = 1 := fun z => hc (by rw [z]; unfold BI; decide)
    have n2 : ¬ a = 2 := fun z => hc (by rw [z]; unfold BI; decide)
    have n3 : ¬ a = 3 := fun z => hc (by rw [z]; unfold BI; decide)
    refine ⟨-1, X, M, ?_, ?_, h⟩
    · simp [fX6_plan, fX1_change, wX_M, w, bd1, bd2]
    · simp [fM_plan, n0, n1, n2, n3]
end
