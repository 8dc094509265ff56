/-! the book of faults -/
section
variable {N : Nat} {X M : St}
theorem flt_n (hB : BF M) : ∃ F T S : Nat, M.1 10 = nI F ∧ F ≤ 12 ∧ M.1 11 = nI T ∧ T ≤ 12 ∧ M.1 12 = nI S ∧ S < 2 ^ F ∧ S < 4096 := by
  obtain ⟨b0, b1, ⟨S, hS, b2⟩, b3⟩ := hB
  obtain ⟨F, h1, h2, h3⟩ := BIn b0 (by omega)
  obtain ⟨T, h4, h5, h6⟩ := BIn b1 (by omega)
  rw [h1, tn_nI (by omega)] at hS
  refine ⟨F, T, S, h1, by omega, h4, by omega, b2, hS, Nat.lt_of_lt_of_le hS ?_⟩
  exact Nat.pow_le_pow_right (n := 2) (by omega) (show F ≤ 12 by omega)
theorem op_fault (a : Int32) (h : Rel X M) : ∃ r X' M', fX6_fault N X a = some (r, X') ∧ fM_fault N M a = some (r, M') ∧ Rel X' M' := by
  obtain ⟨hD, hT, hB, ⟨hRF, hBF⟩⟩ := id h
  obtain ⟨F, T, S, f1, f2, f3, f4, f5, f6, f7⟩ := flt_n hBF
  obtain ⟨e0, e1, e2, e3, e4, e5⟩ := id hRF
  obtain ⟨b0, b1, b2, b3, b4, b5⟩ := id hBF
  have c0 := ib b0
  rcases within_cases N a 1 99 with ⟨w1, v1⟩ | ⟨w1, v1⟩
  · by_cases c : M.1 10 = 12
    · refine ⟨-2, X, M, ?_, ?_, h⟩
      · simp [fX6_fault, fX2_addFault, wX_M, w1, bd1, bd2, e0, c]
      · simp [fM_fault, w1, bd1, c]
    · have c1 : (M.1 10).toInt < 12 := by
        have : ¬ (M.1 10).toInt = 12 := fun z => c (i32_ext (by rw [z]; decide))
        omega
      have c2 : M.1 10 < 12 := Int32.lt_iff_toInt_lt.mpr (by simp only [Int32.reduceToInt]; omega)
      have g12 : ∀ x : Option (Int32 × St), gi (M.1 10) 12 x = x := fun x => gi_ok (by omega) (by omega)
      have hF : F < 12 := by
        have := c1
        rw [f1, nI_toInt (by omega)] at this
        omega
      refine ⟨(M.1 10 + 1) - 1, s1 (s1 (sA X 11 (M.1 10).toNatClampNeg a) 14 (M.1 12 ||| (1 <<< (M.1 10 &&& 31)))) 12 (M.1 10 + 1), s1 (s1 (sA M 9 (M.1 10).toNatClampNeg a) 12 (M.1 12 ||| (1 <<< (M.1 10 &&& 31)))) 10 (M.1 10 + 1), ?_, ?_, ?_⟩
      · simp [fX6_fault, fX2_addFault, wX_M, w1, bd1, bd2, e0, e2, c2, g12]
      · simp [fM_fault, w1, bd1, c, g12]
      · refine ⟨hD, hT, ⟨RB_fr hB.1 (fun b hb => by simp only [s1_2]; rw [sA_hi (by omega)]) rfl rfl rfl rfl rfl rfl rfl rfl rfl rfl rfl, hB.2⟩, ⟨rfl, e1, rfl, ?_, e4, e5⟩, ?_, b1, ?_, ?_, b4, b5⟩
        · show upd (X.2 11) _ a = upd (M.2 9) _ a
          rw [e3]
        · show BI (M.1 10 + 1) 0 12
          unfold BI
          rw [inc_I (by omega) (by omega)]
          omega
        · refine ⟨S ||| 2 ^ F, ?_, ?_⟩
          · show _ < 2 ^ (M.1 10 + 1).toNatClampNeg
            rw [f1, nI_1, tn_nI (by omega)]
            exact Nat.or_lt_two_pow (Nat.lt_of_lt_of_le f6 (Nat.pow_le_pow_right (by omega) (by omega))) (Nat.pow_lt_pow_right (by omega) (by omega))
          · show M.1 12 ||| (1 <<< (M.1 10 &&& 31)) = _
            rw [f1, f5, nb_shl (by omega), nb_or]
        · exact push_ok (P := fun z => BI z 1 99) c0.1 (by omega) b3 v1
  · refine ⟨-1, X, M, ?_, ?_, h⟩
    · simp [fX6_fault, fX2_addFault, wX_M, w1, bd1, bd2]
    · simp [fM_fault, w1, bd1]
theorem RF_left {v : Int32} (h : RF X M) : RF (s1 X 14 v) (s1 M 12 v) := by
  obtain ⟨e0, e1, e2, e3, e4, e5⟩ := h
  exact ⟨e0, e1, rfl, e3, e4, e5⟩
theorem BF_left {F S : Nat} (hF : M.1 10 = nI F) (h12 : F ≤ 12) (hS : S < 2 ^ F) (h : BF M) : BF (s1 M 12 (nI S)) := by
  obtain ⟨b0, b1, b2, b3, b4, b5⟩ := h
  refine ⟨b0, b1, ⟨S, ?_, rfl⟩, b3, b4, b5⟩
  show _ < 2 ^ (M.1 10).toNatClampNeg
  rw [hF, tn_nI (by omega)]
  exact hS
theorem Rel_left {F S : Nat} (hF : M.1 10 = nI F) (h12 : F ≤ 12) (hS : S < 2 ^ F) (h : Rel X M) : Rel (s1 X 14 (nI S)) (s1 M 12 (nI S)) := by
  obtain ⟨hD, hT, hB, ⟨hRF, hBF⟩⟩ := id h
  exact ⟨hD, hT, ⟨RB_fr hB.1 (fun b hb => rfl) rfl rfl rfl rfl rfl rfl rfl rfl rfl rfl rfl, hB.2⟩, RF_left hRF, BF_left hF h12 hS hBF⟩
theorem full0 : ∀ f : Fin 13, (1 : Int32) <<< (nI f.val &&& 31) - 1 = nI (2 ^ f.val - 1) := by decide +kernel
theorem op_again (hN : 20 ≤ N) (h : Rel X M) : ∃ r X' M', fX6_again N X = some (r, X') ∧ fM_again N M = some (r, M') ∧ Rel X' M' := by
  obtain ⟨hD, hT, hB, ⟨hRF, hBF⟩⟩ := id h
  obtain ⟨F, T, S, f1, f2, f3, f4, f5, f6, f7⟩ := flt_n hBF
  have e : (1 : Int32) <<< (nI F &&& 31) - 1 = nI (2 ^ F - 1) := full0 ⟨F, by omega⟩
  have p0 : 0 < 2 ^ F := Nat.two_pow_pos F
  refine ⟨nI (pc S 12), s1 X 14 (nI (2 ^ F - 1)), s1 M 12 (nI (2 ^ F - 1)), ?_, ?_, Rel_left f1 f2 (by omega) h⟩
  · simp only [fX6_again, fX2_startAgain, hRF.1, hRF.2.2.1, f1, f5, bc_X N f7, bd1, bd2, e]
  · simp only [fM_again, f1, f5, bo_M hN f7, bd1, e]
/-- the faults that give a reading, as a number -/
def gv (X : St) (t r : Nat) : Nat := (X.2 13 (4 * t + r)).toNatClampNeg
theorem gv_eq (hR : RF X M) {t r : Nat} (ht : t < 12) (hr : r < 4) : X.2 13 (4 * t + r) = nI (gv X t r) ∧ gv X t r < 4096 ∧ ∀ f : Nat, f < 12 → ((gv X t r).testBit f = true ↔ M.2 11 (12 * t + f) = nI r) := by
  obtain ⟨e0, e1, e2, e3, e4, e5, e6⟩ := hR
  obtain ⟨n, h1, h2, h3⟩ := BIn (e6 t r ht hr) (by omega)
  have hg : gv X t r = n := by
    unfold gv
    rw [h1, tn_nI (by omega)]
  rw [hg]
  refine ⟨h1, by omega, fun f hf => ?_⟩
  have := e5 t r f ht hr hf
  rw [h1] at this
  unfold bitv at this
  rw [pk_tn (by omega)] at this
  exact this
theorem mod_or (x f : Nat) : x % 2 ^ (f + 1) = x % 2 ^ f ||| (if x.testBit f = true then 2 ^ f else 0) := by
  apply Nat.eq_of_testBit_eq
  intro i
  rw [Nat.testBit_or, Nat.testBit_mod_two_pow, Nat.testBit_mod_two_pow]
  by_cases c : x.testBit f = true
  · rw [if_pos c, Nat.testBit_two_pow]
    by_cases d : f = i
    · subst d
      simp [c]
    · have : decide (i < f + 1) = decide (i < f) := by
        congr 1
        exact propext ⟨fun z => by omega, fun z => by omega⟩
      simp [this, d]
  · rw [if_neg c, Nat.zero_testBit, Bool.or_false]
    by_cases d : f = i
    · subst d
      simp [c]
    · have : decide (i < f + 1) = decide (i < f) := by
        congr 1
        exact propext ⟨fun z => by omega, fun z => by omega⟩
      rw [this]
theorem lv_L {S t r g F : Nat} (hF : M.1 10 = nI F) (h12 : F ≤ 12) (ht : t < 12) (hS : S < 4096) (hg : ∀ f : Nat, f < 12 → (g.testBit f = true ↔ M.2 11 (12 * t + f) = nI r)) : ∀ (d k n : Nat), k + d = F → d < n → fM_leaves_L6 N M (nI S) (nI t) (nI r) n (nI ((S &&& g) % 2 ^ k)) (nI k) = some (nI ((S &&& g) % 2 ^ F)) := by
  intro d
  induction d with
  | zero =>
    intro k n hk hn
    obtain ⟨n, rfl⟩ : ∃ z, n = z + 1 := ⟨n - 1, by omega⟩
    have hk : k = F := by omega
    subst hk
    rw [fM_leaves_L6.eq_2, hF, if_pos (nI_le (by omega) (by omega))]
  | succ d ih =>
    intro k n hk hn
    obtain ⟨n, rfl⟩ : ∃ z, n = z + 1 := ⟨n - 1, by omega⟩
    have ec : (12 : Int32) * nI t + nI k = nI (12 * t + k) := by
      show nI 12 * nI t + nI k = _
      rw [pk_mul, nI_add]
    have o0 : nI ((S &&& g) % 2 ^ k) ||| 0 = nI ((S &&& g) % 2 ^ k ||| 0) := nb_or _ 0
    have st := ih (k + 1) n (by omega) (by omega)
    rw [mod_or, Nat.testBit_and] at st
    rw [fM_leaves_L6.eq_2, hF, if_neg (nI_ge (by omega) (by omega)), ec, tn_nI (by omega), gi_ok (by rw [nI_toInt (by omega)]; omega) (by rw [nI_toInt (by omega)]; omega), nb_shl (by omega), nb_or, o0, nI_1]
    by_cases c1 : S.testBit k = true
    · rw [if_pos ((nb_bit1 (by omega) (by omega)).mpr c1)]
      by_cases c2 : g.testBit k = true
      · rw [if_pos ((hg k (by omega)).mp c2)]
        rw [if_pos (by simp [c1, c2])] at st
        exact st
      · rw [if_neg (fun z => c2 ((hg k (by omega)).mpr z))]
        rw [if_neg (by simp [c2])] at st
        exact st
    · rw [if_neg (fun z => c1 ((nb_bit1 (by omega) (by omega)).mp z))]
      rw [if_neg (by simp [c1])] at st
      exact st
theorem lv_M {S t r g F : Nat} (hN : 20 ≤ N) (hF : M.1 10 = nI F) (h12 : F ≤ 12) (ht : t < 12) (hS : S < 2 ^ F) (hS' : S < 4096) (hg : ∀ f : Nat, f < 12 → (g.testBit f = true ↔ M.2 11 (12 * t + f) = nI r)) : fM_leaves N M (nI S) (nI t) (nI r) = some (nI (S &&& g)) := by
  have := lv_L (N := N) hF h12 ht hS' hg F 0 N (by omega) (by omega)
  rw [Nat.mod_eq_of_lt (Nat.lt_of_le_of_lt Nat.and_le_left hS), Nat.pow_zero, Nat.mod_one] at this
  exact this
theorem is_test {a : Int32} (hR : RF X M) {T : Nat} (hT : M.1 11 = nI T) (h12 : T ≤ 12) : (∃ t : Nat, a = nI t ∧ t < T ∧ fX2_isTest N X a = some 1 ∧ fM_isTest N M a = some 1) ∨ (fX2_isTest N X a = some 0 ∧ fM_isTest N M a = some 0) := by
  have e1 := hR.2.1
  have eT : (nI T - 1).toInt = T - 1 := by
    rw [i32_sub (by rw [nI_toInt (by omega)]; simp only [Int32.reduceToInt]; omega) (by rw [nI_toInt (by omega)]; simp only [Int32.reduceToInt]; omega), nI_toInt (by omega)]
    simp only [Int32.reduceToInt]
  rcases within_cases N a 0 (nI T - 1) with ⟨w, v⟩ | ⟨w, v⟩
  · left
    rw [eT] at v
    obtain ⟨t, h1, h2, h3⟩ := BIn v (by decide)
    refine ⟨t, h1, by omega, ?_, ?_⟩
    · simp only [fX2_isTest, e1, hT, wX_M, w, bd1, bz1]
    · rw [fM_isTest, hT, h1, if_neg (nI_pos (by omega)), if_neg (nI_ge (by omega) (by omega))]
  · right
    rw [eT] at v
    simp only [Int32.reduceToInt] at v
    refine ⟨?_, ?_⟩
    · simp only [fX2_isTest, e1, hT, wX_M, w, bd1, bz0]
    · rw [fM_isTest, hT]
      by_cases c : a < 0
      · rw [if_pos c]
      · rw [if_neg c, if_pos]
        rw [Int32.lt_iff_toInt_lt] at c
        simp only [Int32.reduceToInt] at c
        rw [Int32.le_iff_toInt_le, nI_toInt (by omega)]
        omega
theorem is_rd (a : Int32) : (∃ r : Nat, a = nI r ∧ r < 4 ∧ fX2_isReading N a = some 1 ∧ fM_within N a 0 3 = some 1) ∨ (fX2_isReading N a = some 0 ∧ fM_within N a 0 3 = some 0) := by
  rcases within_cases N a 0 3 with ⟨w, v⟩ | ⟨w, v⟩
  · left
    obtain ⟨t, h1, h2, h3⟩ := BIn v (by decide)
    simp only [Int32.reduceToInt] at h3
    exact ⟨t, h1, by omega, by simp only [fX2_isReading, wX_M, w, bd1, bz1], w⟩
  · right
    exact ⟨by simp only [fX2_isReading, wX_M, w, bd1, bz0], w⟩
theorem ix4 {t r : Nat} : nI t * 4 + nI r = nI (4 * t + r) := by
  show nI t * nI 4 + nI r = _
  rw [pk_mul, nI_add, Nat.mul_comm]
theorem op_read (a b : Int32) (hN : 20 ≤ N) (h : Rel X M) : ∃ r X' M', fX6_read N X a b = some (r, X') ∧ fM_read N M a b = some (r, M') ∧ Rel X' M' := by
  obtain ⟨hD, hT, hB, ⟨hRF, hBF⟩⟩ := id h
  obtain ⟨F, T, S, f1, f2, f3, f4, f5, f6, f7⟩ := flt_n hBF
  rcases is_test (N := N) (a := a) hRF f3 f4 with ⟨t, t1, t2, t3, t4⟩ | ⟨t3, t4⟩
  · rcases is_rd (N := N) b with ⟨v, v1, v2, v3, v4⟩ | ⟨v3, v4⟩
    · obtain ⟨g1, g2, g3⟩ := gv_eq hRF (t := t) (r := v) (by omega) v2
      have hl := lv_M (N := N) hN f1 f2 (show t < 12 by omega) f6 f7 g3
      have hlt : S &&& gv X t v < 4096 := Nat.lt_of_le_of_lt Nat.and_le_left f7
      have gi1 : ∀ x : Option (Int32 × St), gi (nI (4 * t + v)) 48 x = x := fun x => gi_ok (by rw [nI_toInt (by omega)]; omega) (by rw [nI_toInt (by omega)]; omega)
      by_cases c : S &&& gv X t v = 0
      · refine ⟨-3, X, M, ?_, ?_, h⟩
        · rw [fX6_read, fX2_takeReading, t3]
          simp only [bd1, v3]
          rw [if_neg (by decide), if_neg (by decide), t1, v1, ix4, gi1, tn_nI (by omega), hRF.2.2.1, f5, g1, nb_and, c, if_pos (show nI 0 = 0 from rfl)]
          rfl
        · rw [fM_read, t4]
          simp only [bd1, v4]
          rw [if_neg (by decide), if_neg (by decide), t1, v1, f5, hl]
          simp only [c]
          rfl
      · refine ⟨nI (pc (S &&& gv X t v) 12), s1 X 14 (nI (S &&& gv X t v)), s1 M 12 (nI (S &&& gv X t v)), ?_, ?_, Rel_left f1 f2 (Nat.lt_of_le_of_lt Nat.and_le_left f6) h⟩
        · rw [fX6_read, fX2_takeReading, t3]
          simp only [bd1, v3]
          rw [if_neg (by decide), if_neg (by decide), t1, v1, ix4, gi1, tn_nI (by omega), hRF.2.2.1, f5, g1, nb_and, if_neg (nI_ne0 (by omega) (by omega)), bc_X N hlt]
          rfl
        · rw [fM_read, t4]
          simp only [bd1, v4]
          rw [if_neg (by decide), if_neg (by decide), t1, v1, f5, hl]
          simp only
          rw [if_neg (nI_ne0 (by omega) (by omega)), bo_M hN hlt]
    · refine ⟨-1, X, M, ?_, ?_, h⟩
      · simp [fX6_read, fX2_takeReading, t3, v3, bd1, bd2]
      · simp [fM_read, t4, v4, bd1]
  · refine ⟨-1, X, M, ?_, ?_, h⟩
    · simp [fX6_read, fX2_takeReading, t3, bd1, bd2]
    · simp [fM_read, t4, bd1]
end
