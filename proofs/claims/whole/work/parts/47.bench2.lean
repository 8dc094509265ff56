/-! the bench: errors, turning, rounds -/
section
variable {N : Nat} {M X : St}
def vS (M : St) (k j : Nat) : Int32 := clp j (M.2 4 (6 * k + j) + M.2 5 (6 * k + j) + M.2 6 (6 * k + j))
def eS (M : St) (k : Nat) : Int32 := sumE (erP M (vS M k 0) (vS M k 1) (vS M k 2) (vS M k 3) (vS M k 4) (vS M k 5)) (M.1 7).toNatClampNeg 0 0 + 10 * jabs (vS M k 5 - M.2 4 (6 * k + 5))
theorem BR_v (k : Nat) : BR (vS M k 0) (vS M k 1) (vS M k 2) (vS M k 3) (vS M k 4) := by
  refine ⟨?_, ?_, ?_, ?_, ?_⟩
  · exact clp_I 0 _
  · exact clp_I 1 _
  · exact clp_I 2 _
  · exact clp_I 3 _
  · exact clp_I 4 _
theorem err_M {k : Nat} (hN : 100 ≤ N) (hB : BT M) (hk : k < 10) : fM_errorNow N M (nI k) = some (eS M k) := by
  have v0 : fM_valueOf N M (nI k) 0 = some (vS M k 0) := val_M hk (by decide)
  have v1 : fM_valueOf N M (nI k) 1 = some (vS M k 1) := val_M hk (by decide)
  have v2 : fM_valueOf N M (nI k) 2 = some (vS M k 2) := val_M hk (by decide)
  have v3 : fM_valueOf N M (nI k) 3 = some (vS M k 3) := val_M hk (by decide)
  have v4 : fM_valueOf N M (nI k) 4 = some (vS M k 4) := val_M hk (by decide)
  have v5 : fM_valueOf N M (nI k) 5 = some (vS M k 5) := val_M hk (by decide)
  have eo := offM (N := N) (m := vS M k 5) hN hB (BR_v (M := M) k)
  have e6 : 6 * nI k + 5 = nI (6 * k + 5) := six hk (j := 5) (by decide)
  have hI : (nI (6 * k + 5)).toInt = ((6 * k + 5 : Nat) : Int) := nI_toInt (by omega)
  have g : ∀ x : Option Int32, gi (nI (6 * k + 5)) 60 x = x := fun x => gi_ok (by omega) (by omega)
  rw [fM_errorNow, v5]
  simp only [bd1, v0, v1, v2, v3, v4, eo, e6, g, size_eq, tn_nI (show 6 * k + 5 < 2147483648 by omega)]
  rfl
theorem err_X {k : Nat} (hN : 100 ≤ N) (h : Rel X M) (hk : (k : Int) < (M.1 8).toInt) : fX3_partsNow N k X = some () ∧ fX3_builtMiddle N k X = some (M.2 4 (6 * k + 5)) ∧ fX5_errorWith N (some k) X (M.2 4 (6 * k + 5)) = some (eS M k) := by
  have hkx := setsX h hk
  have r5 := h.2.2.1.1.2.2.2.2
  refine ⟨by rw [fX3_partsNow, gk_ok hkx], ?_, ?_⟩
  · rw [fX3_builtMiddle, gk_ok hkx]
    have : X.2 (15 + 4 * k) (5 : Int32).toNatClampNeg = M.2 4 (6 * k + 5) := (r5 k 5 hk (by decide)).1
    rw [this]
  · have e := offX (N := N) (g := some k) (bm := M.2 4 (6 * k + 5)) (m := vS M k 5) hN h.1.1 h.2.1.1 h.2.1.2.1 (BR_v (M := M) k) (fun a ha => by cases ha; exact hkx) (r5 k 0 hk (by decide)).2.2.2 (r5 k 1 hk (by decide)).2.2.2 (r5 k 2 hk (by decide)).2.2.2 (r5 k 3 hk (by decide)).2.2.2 (r5 k 4 hk (by decide)).2.2.2 (r5 k 5 hk (by decide)).2.2.2
    rw [e, Int32.add_comm]
    rfl
theorem set_cases (N : Nat) (h : Rel X M) (a : Int32) : (∃ k : Nat, k < 10 ∧ (k : Int) < (M.1 8).toInt ∧ a = nI k ∧ fX0_find N X a = some (some k) ∧ fM_isSet N M a = some 1) ∨ (fX0_find N X a = some none ∧ fM_isSet N M a = some 0) := by
  have e10 : X.1 10 = M.1 8 := h.2.2.1.1.1
  have hb := h.2.2.1.2.1
  obtain ⟨n, hn, n1, n2⟩ := BIn hb (by decide)
  have e1 : (nI n - 1).toInt = (n : Int) - 1 := pk_sub_toInt (a := n) (b := 1) (by omega) (by decide)
  have e2 : (nI n).toInt = (n : Int) := nI_toInt (by omega)
  by_cases c : 0 ≤ a.toInt ∧ a.toInt < (n : Int)
  · left
    obtain ⟨i, rfl, i1, i2⟩ := BIn (x := a) (lo := 0) (hi := n - 1) ⟨c.1, by omega⟩ (by decide)
    have hI : (nI i).toInt = (i : Int) := nI_toInt (by omega)
    have hkx := setsX h (k := i) (by rw [hn, e2]; omega)
    refine ⟨i, by omega, by rw [hn, e2]; omega, rfl, ?_, ?_⟩
    · have w : fM_within N (nI i) 0 (X.1 10 - 1) = some 1 := by
        rw [e10, hn]
        exact wi1 (by simp only [Int32.reduceToInt]; omega) (by rw [e1]; omega)
      rw [fX0_find, wX_M, w]
      simp only [bd1]
      rw [if_neg (by decide), gi_ok (by omega) (by omega), tn_nI (by omega), gk_ok hkx]
    · unfold fM_isSet
      rw [if_neg (nI_pos (by omega)), hn, if_neg (nI_ge (by omega) (by omega))]
  · right
    constructor
    · have w : fM_within N a 0 (X.1 10 - 1) = some 0 := by
        rw [e10, hn]
        exact wi0 (by rw [e1]; simp only [Int32.reduceToInt]; omega)
      simp [fX0_find, wX_M, w, bd1]
    · unfold fM_isSet
      by_cases c2 : a < 0
      · rw [if_pos c2]
      · rw [if_neg c2, hn, if_pos]
        have c3 : ¬ a.toInt < 0 := fun z => c2 (Int32.lt_iff_toInt_lt.mpr (by simpa using z))
        exact Int32.le_iff_toInt_le.mpr (by rw [e2]; omega)
theorem op_errorOf (a : Int32) (hN : 100 ≤ N) (h : Rel X M) : ∃ r X' M', lf X (fX6_errorOf N X a) = some (r, X') ∧ lf M (fM_errorOf N M a) = some (r, M') ∧ Rel X' M' := by
  rcases set_cases N h a with ⟨k, k10, hk, rfl, x1, m1⟩ | ⟨x1, m1⟩
  · obtain ⟨p1, p2, p3⟩ := err_X (N := N) hN h hk
    refine ⟨eS M k, X, M, ?_, ?_, h⟩
    · simp [fX6_errorOf, fX0_errorOfNumber, x1, bd1, mo, p1, p2, p3, lf]
    · simp [fM_errorOf, m1, bd1, err_M hN h.2.1.2.1 k10, lf]
  · refine ⟨-1, X, M, ?_, ?_, h⟩
    · simp [fX6_errorOf, fX0_errorOfNumber, x1, bd1, mo, lf]
    · simp [fM_errorOf, m1, bd1, lf]
theorem op_offBy (a b c : Int32) (h : Rel X M) : ∃ r X' M', fX6_offBy N X a b c = some (r, X') ∧ fM_offBy N M a b c = some (r, M') ∧ Rel X' M' := by
  rcases set_cases N h a with ⟨k, k10, hk, rfl, x1, m1⟩ | ⟨x1, m1⟩
  · rcases within_cases N b 0 5 with ⟨w2, v2⟩ | ⟨w2, v2⟩
    · rcases within_cases N c (-50) 50 with ⟨w3, v3⟩ | ⟨w3, v3⟩
      · obtain ⟨j, rfl, j1, j2⟩ := BIn v2 (by decide)
        simp only [Int32.reduceToInt] at j1 j2
        have hj : j < 6 := by omega
        have ec := chg_X (N := N) (v := c) (setsX h hk) hj
        have hI : (nI (6 * k + j)).toInt = ((6 * k + j : Nat) : Int) := nI_toInt (by omega)
        have g : ∀ x : Option (Int32 × St), gi (nI (6 * k + j)) 60 x = x := fun x => gi_ok (by omega) (by omega)
        refine ⟨M.2 5 (6 * k + j), oX X k j c, oM M k j c, ?_, ?_, Rel_oX c h hk hj⟩
        · rw [(h.2.2.1.1.2.2.2.2 k j hk hj).2.1] at ec
          simp [fX6_offBy, fX0_putOff, fX0_isPart, x1, wX_M, w2, w3, bd1, bd2, bz, mo, ec]
        · simp [fM_offBy, m1, w2, w3, bd1, six k10 hj, g, tn_nI (show 6 * k + j < 2147483648 by omega), oM]
      · refine ⟨-2000000000, X, M, ?_, ?_, h⟩
        · simp [fX6_offBy, fX0_putOff, fX0_isPart, x1, wX_M, w2, w3, bd1, bd2, bz, mo]
        · simp [fM_offBy, m1, w2, w3, bd1]
    · refine ⟨-2000000000, X, M, ?_, ?_, h⟩
      · simp [fX6_offBy, fX0_putOff, fX0_isPart, x1, wX_M, w2, bd1, bd2, bz, mo]
      · simp [fM_offBy, m1, w2, bd1]
  · refine ⟨-2000000000, X, M, ?_, ?_, h⟩
    · simp [fX6_offBy, fX0_putOff, x1, bd1, bd2, mo]
    · simp [fM_offBy, m1, bd1]
theorem op_ofSet (a b c : Int32) (h : Rel X M) : ∃ r X' M', lf X (fX6_ofSet N X a b c) = some (r, X') ∧ lf M (fM_ofSet N M a b c) = some (r, M') ∧ Rel X' M' := by
  rcases set_cases N h a with ⟨k, k10, hk, rfl, x1, m1⟩ | ⟨x1, m1⟩
  · have hkx := setsX h hk
    rcases within_cases N b 0 5 with ⟨w2, v2⟩ | ⟨w2, v2⟩
    · rcases within_cases N c 0 1 with ⟨w3, v3⟩ | ⟨w3, v3⟩
      · obtain ⟨j, rfl, j1, j2⟩ := BIn v2 (by decide)
        simp only [Int32.reduceToInt] at j1 j2
        have hj : j < 6 := by omega
        have hJ : (nI j).toInt = (j : Int) := nI_toInt (by omega)
        have g6 : ∀ x : Option Int32, gi (nI j) 6 x = x := fun x => gi_ok (by omega) (by omega)
        have hI : (nI (6 * k + j)).toInt = ((6 * k + j : Nat) : Int) := nI_toInt (by omega)
        have g : ∀ x : Option Int32, gi (nI (6 * k + j)) 60 x = x := fun x => gi_ok (by omega) (by omega)
        have rr := h.2.2.1.1.2.2.2.2 k j hk hj
        by_cases c0 : c = 0
        · refine ⟨vS M k j, X, M, ?_, ?_, h⟩
          · have e1 : X.2 (gAi (some k)) j = vS M k j := rr.2.2.2
            simp [fX6_ofSet, fX0_ofPart, fX0_isPart, x1, wX_M, w2, w3, bd1, bz, mo, c0, fX3_partsNow, gk_ok hkx, g6, tn_nI (show j < 2147483648 by omega), e1, lf]
            rw [c0] at w3
            simp [w3]
          · have e2 : fM_valueOf N M (nI k) (nI j) = some (vS M k j) := val_M k10 hj
            rw [c0] at w3
            simp [fM_ofSet, m1, w2, w3, bd1, c0, e2, lf]
        · refine ⟨M.2 6 (6 * k + j), X, M, ?_, ?_, h⟩
          · simp [fX6_ofSet, fX0_ofPart, fX0_isPart, x1, wX_M, w2, w3, bd1, bz, mo, c0, fX3_turnedBy, gk_ok hkx, g6, tn_nI (show j < 2147483648 by omega), rr.2.2.1, lf]
          · simp [fM_ofSet, m1, w2, w3, bd1, c0, six k10 hj, g, tn_nI (show 6 * k + j < 2147483648 by omega), lf]
      · refine ⟨-2000000000, X, M, ?_, ?_, h⟩
        · simp [fX6_ofSet, fX0_ofPart, fX0_isPart, x1, wX_M, w2, w3, bd1, bz, mo, lf]
        · simp [fM_ofSet, m1, w2, w3, bd1, lf]
    · refine ⟨-2000000000, X, M, ?_, ?_, h⟩
      · simp [fX6_ofSet, fX0_ofPart, fX0_isPart, x1, wX_M, w2, bd1, bz, mo, lf]
      · simp [fM_ofSet, m1, w2, bd1, lf]
  · refine ⟨-2000000000, X, M, ?_, ?_, h⟩
    · simp [fX6_ofSet, fX0_ofPart, x1, bd1, mo, lf]
    · simp [fM_ofSet, m1, bd1, lf]
end
