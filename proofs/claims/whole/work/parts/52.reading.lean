/-! reading -/
section
variable {N : Nat} {X M : St}
theorem and_bit0 {g f : Nat} : g &&& 2 ^ f = 0 ↔ ¬ g.testBit f = true := by
  constructor
  · intro h c
    have := congrArg (fun z => z.testBit f) h
    simp only [Nat.testBit_and, Nat.testBit_two_pow, Nat.zero_testBit, c] at this
    simp at this
  · intro h
    apply Nat.eq_of_testBit_eq
    intro i
    rw [Nat.testBit_and, Nat.testBit_two_pow, Nat.zero_testBit]
    by_cases d : f = i
    · subst d
      simp [h]
    · simp [d]
theorem nb_not0 : ∀ f : Fin 12, nI (2 ^ f.val) ^^^ (-1) = nI (4294967295 ^^^ 2 ^ f.val) := by decide +kernel
theorem nb_nb0 : ∀ f g : Fin 12, (4294967295 ^^^ 2 ^ f.val).testBit g.val = decide (g ≠ f) := by decide +kernel
/-- what changeReading leaves -/
def crS (X : St) (t f v q : Nat) : St := sA (sA X 13 (4 * t + q) (X.2 13 (4 * t + q) &&& (nI (2 ^ f) ^^^ (-1)))) 13 (4 * t + v) ((sA X 13 (4 * t + q) (X.2 13 (4 * t + q) &&& (nI (2 ^ f) ^^^ (-1)))).2 13 (4 * t + v) ||| nI (2 ^ f))
theorem cr_L {t f v q : Nat} (hR : RF X M) (ht : t < 12) (hf : f < 12) (hv : v < 4) (hq : q < 4) (hM : M.2 11 (12 * t + f) = nI q) : ∀ (d r w n : Nat), r + d = 4 → d < n → (r ≤ q ∨ w = q) → fX2_changeReading_L42 N (nI t) (nI v) (nI (2 ^ f)) n (nI w) (nI r) X = some (nI q, crS X t f v q) := by
  intro d
  induction d with
  | zero =>
    intro r w n hr hn hw
    obtain ⟨n, rfl⟩ : ∃ z, n = z + 1 := ⟨n - 1, by omega⟩
    have hr : r = 4 := by omega
    subst hr
    have hw : w = q := by omega
    subst hw
    rw [fX2_changeReading_L42.eq_2, if_pos (by decide)]
    simp only [ix4]
    rw [gi_ok (by rw [nI_toInt (by omega)]; omega) (by rw [nI_toInt (by omega)]; omega), gi_ok (by rw [nI_toInt (by omega)]; omega) (by rw [nI_toInt (by omega)]; omega), gi_ok (by rw [nI_toInt (by omega)]; omega) (by rw [nI_toInt (by omega)]; omega), gi_ok (by rw [nI_toInt (by omega)]; omega) (by rw [nI_toInt (by omega)]; omega), tn_nI (by omega), tn_nI (by omega)]
    rfl
  | succ d ih =>
    intro r w n hr hn hw
    obtain ⟨n, rfl⟩ : ∃ z, n = z + 1 := ⟨n - 1, by omega⟩
    obtain ⟨g1, g2, g3⟩ := gv_eq hR (t := t) (r := r) (by omega) (by omega)
    have hlt : gv X t r &&& 2 ^ f < 4096 := Nat.lt_of_le_of_lt Nat.and_le_left g2
    have e4 : ¬ (4 : Int32) ≤ nI r := nI_ge (b := 4) (by omega) (by omega)
    have hz : nI (gv X t r &&& 2 ^ f) = 0 ↔ gv X t r &&& 2 ^ f = 0 := nI_eq (b := 0) (by omega) (by omega)
    rw [fX2_changeReading_L42.eq_2, if_neg e4, ix4, gi_ok (by rw [nI_toInt (by omega)]; omega) (by rw [nI_toInt (by omega)]; omega), tn_nI (by omega), g1, nb_and, nI_1]
    by_cases c : (gv X t r).testBit f = true
    · rw [if_neg (fun z => (and_bit0.mp (hz.mp z)) c)]
      have : r = q := by
        have := (g3 f hf).mp c
        rw [hM] at this
        exact ((nI_eq (by omega) (by omega)).mp this).symm
      exact ih (r + 1) r n (by omega) (by omega) (Or.inr this)
    · rw [if_pos (hz.mpr (and_bit0.mpr c))]
      have : ¬ r = q := fun z => c ((g3 f hf).mpr (by rw [hM, z]))
      exact ih (r + 1) w n (by omega) (by omega) (by omega)
theorem cr_RF {t f v q : Nat} (hR : RF X M) (ht : t < 12) (hf : f < 12) (hv : v < 4) (hq : q < 4) (hM : M.2 11 (12 * t + f) = nI q) : RF (crS X t f v q) (sA M 11 (12 * t + f) (nI v)) := by
  obtain ⟨e0, e1, e2, e3, e4, e5, e6⟩ := id hR
  have key : ∀ t' r' : Nat, t' < 12 → r' < 4 → ∃ h : Nat, h < 4096 ∧ (crS X t f v q).2 13 (4 * t' + r') = nI h ∧ ∀ f' : Nat, f' < 12 → (h.testBit f' = true ↔ upd (M.2 11) (12 * t + f) (nI v) (12 * t' + f') = nI r') := by
    intro t' r' ht' hr'
    have base := gv_eq hR ht' hr'
    obtain ⟨g1, g2, g3⟩ := base
    by_cases ct : t' = t
    · subst ct
      -- after the first write
      have s1w : ∀ r : Nat, r < 4 → ∃ h : Nat, h < 4096 ∧ upd (X.2 13) (4 * t' + q) (X.2 13 (4 * t' + q) &&& (nI (2 ^ f) ^^^ (-1))) (4 * t' + r) = nI h ∧ ∀ f' : Nat, f' < 12 → (h.testBit f' = true ↔ (f' ≠ f ∧ M.2 11 (12 * t' + f') = nI r)) := by
        intro r hr
        obtain ⟨g1, g2, g3⟩ := gv_eq hR ht' hr
        by_cases cq : r = q
        · subst cq
          refine ⟨gv X t' r &&& (4294967295 ^^^ 2 ^ f), Nat.lt_of_le_of_lt Nat.and_le_left g2, ?_, ?_⟩
          · rw [upd_eq, g1, nb_not0 ⟨f, hf⟩, nb_and]
          · intro f' hf'
            have hb : (4294967295 ^^^ 2 ^ f).testBit f' = decide ((⟨f', hf'⟩ : Fin 12) ≠ ⟨f, hf⟩) := nb_nb0 ⟨f, hf⟩ ⟨f', hf'⟩
            rw [Nat.testBit_and, hb, Bool.and_eq_true, g3 f' hf', decide_eq_true_eq]
            constructor
            · intro z
              exact ⟨fun y => z.2 (Fin.ext y), z.1⟩
            · intro z
              exact ⟨z.2, fun y => z.1 (congrArg Fin.val y)⟩
        · refine ⟨gv X t' r, g2, ?_, ?_⟩
          · rw [upd_ne (by omega), g1]
          · intro f' hf'
            rw [g3 f' hf']
            constructor
            · intro z
              refine ⟨fun y => ?_, z⟩
              rw [y, hM] at z
              exact cq ((nI_eq (by omega) (by omega)).mp z).symm
            · exact fun z => z.2
      obtain ⟨h1, p1, p2, p3⟩ := s1w r' hr'
      by_cases cv : r' = v
      · subst cv
        refine ⟨h1 ||| 2 ^ f, ?_, ?_, ?_⟩
        · exact Nat.or_lt_two_pow (n := 12) p1 (Nat.pow_lt_pow_right (by omega) (by omega))
        · show upd (upd (X.2 13) (4 * t' + q) _) (4 * t' + r') _ (4 * t' + r') = _
          rw [upd_eq]
          show upd (X.2 13) (4 * t' + q) _ (4 * t' + r') ||| _ = _
          rw [p2, nb_or]
        · intro f' hf'
          rw [Nat.testBit_or, Nat.testBit_two_pow, Bool.or_eq_true, p3 f' hf', decide_eq_true_eq]
          by_cases cf : f' = f
          · subst cf
            rw [upd_eq]
            simp
          · rw [upd_ne (by omega)]
            constructor
            · intro z
              rcases z with z | z
              · exact z.2
              · exact absurd z.symm cf
            · exact fun z => Or.inl ⟨cf, z⟩
      · refine ⟨h1, p1, ?_, ?_⟩
        · show upd (upd (X.2 13) (4 * t' + q) _) (4 * t' + v) _ (4 * t' + r') = _
          rw [upd_ne (by omega), p2]
        · intro f' hf'
          rw [p3 f' hf']
          by_cases cf : f' = f
          · subst cf
            rw [upd_eq]
            constructor
            · exact fun z => absurd rfl z.1
            · intro z
              exact absurd ((nI_eq (by omega) (by omega)).mp z).symm cv
          · rw [upd_ne (by omega)]
            exact ⟨fun z => z.2, fun z => ⟨cf, z⟩⟩
    · refine ⟨gv X t' r', g2, ?_, ?_⟩
      · show upd (upd (X.2 13) (4 * t + q) _) (4 * t + v) _ (4 * t' + r') = _
        rw [upd_ne (by omega), upd_ne (by omega), g1]
      · intro f' hf'
        rw [upd_ne (by omega)]
        exact g3 f' hf'
  refine ⟨e0, e1, e2, e3, e4, ?_, ?_⟩
  · intro t' r' f' ht' hr' hf'
    obtain ⟨h, p1, p2, p3⟩ := key t' r' ht' hr'
    rw [p2]
    unfold bitv
    rw [pk_tn (by omega)]
    exact p3 f' hf'
  · intro t' r' ht' hr'
    obtain ⟨h, p1, p2, p3⟩ := key t' r' ht' hr'
    rw [p2]
    exact BI_nI (by omega) (by omega) (by omega)
theorem op_reading (a b c : Int32) (hN : 20 ≤ N) (h : Rel X M) : ∃ r X' M', fX6_reading N X a b c = some (r, X') ∧ fM_reading N M a b c = some (r, M') ∧ Rel X' M' := by
  obtain ⟨hD, hT, hB, ⟨hRF, hBF⟩⟩ := id h
  obtain ⟨F, T, S, f1, f2, f3, f4, f5, f6, f7⟩ := flt_n hBF
  obtain ⟨b0, b1, b2, b3, b4, b5⟩ := id hBF
  have eF : (nI F - 1).toInt = F - 1 := by
    rw [i32_sub (by rw [nI_toInt (by omega)]; simp only [Int32.reduceToInt]; omega) (by rw [nI_toInt (by omega)]; simp only [Int32.reduceToInt]; omega), nI_toInt (by omega)]
    simp only [Int32.reduceToInt]
  rcases is_test (N := N) (a := a) hRF f3 f4 with ⟨t, t1, t2, t3, t4⟩ | ⟨t3, t4⟩
  · rcases within_cases N b 0 (nI F - 1) with ⟨w, wv⟩ | ⟨w, wv⟩
    · rw [eF] at wv
      obtain ⟨f, u1, u2, u3⟩ := BIn wv (by decide)
      have m1 : ¬ nI f < 0 := nI_pos (by omega)
      have m2 : ¬ nI F ≤ nI f := nI_ge (by omega) (by omega)
      rcases is_rd (N := N) c with ⟨v, v1, v2, v3, v4⟩ | ⟨v3, v4⟩
      · obtain ⟨q, q1, q2, q3⟩ := BIn (b5 t f (by omega) (by omega)) (by omega)
        have hx := cr_L (N := N) hRF (show t < 12 by omega) (show f < 12 by omega) v2 (show q < 4 by omega) q1 4 0 0 N (by omega) (by omega) (by omega)
        have ec : (12 : Int32) * nI t + nI f = nI (12 * t + f) := by
          show nI 12 * nI t + nI f = _
          rw [pk_mul, nI_add]
        refine ⟨nI q, crS X t f v q, sA M 11 (12 * t + f) (nI v), ?_, ?_, hD, hT, ⟨RB_fr hB.1 (fun z hz => by unfold crS; rw [sA_hi (by omega), sA_hi (by omega)]) rfl rfl rfl rfl rfl rfl rfl rfl rfl rfl rfl, hB.2⟩, cr_RF hRF (by omega) (by omega) v2 (by omega) q1, b0, b1, b2, b3, b4, ?_⟩
        · rw [fX6_reading, fX2_changeReading, t3]
          simp only [bd1, hRF.1, f1, wX_M, w, v3]
          rw [if_neg (by decide), if_neg (by decide), if_neg (by decide), t1, u1, v1, nb_shl (by omega)]
          have hx' : fX2_changeReading_L42 N (nI t) (nI v) (nI (2 ^ f)) N 0 0 X = _ := hx
          rw [hx']
          rfl
        · rw [fM_reading, t4]
          simp only [bd1, v4, f1]
          rw [if_neg (by decide), u1, if_neg m1, if_neg m2, if_neg (by decide), t1, v1, ec, gi_ok (by rw [nI_toInt (by omega)]; omega) (by rw [nI_toInt (by omega)]; omega), gi_ok (by rw [nI_toInt (by omega)]; omega) (by rw [nI_toInt (by omega)]; omega), tn_nI (by omega), q1]
        · intro t' f' ht' hf'
          show BI (upd (M.2 11) _ _ _) 0 3
          by_cases cc : 12 * t' + f' = 12 * t + f
          · rw [cc, upd_eq]
            exact BI_nI (by omega) (by omega) (by omega)
          · rw [upd_ne cc]
            exact b5 t' f' ht' hf'
      · refine ⟨-1, X, M, ?_, ?_, h⟩
        · simp [fX6_reading, fX2_changeReading, t3, hRF.1, f1, wX_M, w, v3, bd1, bd2]
        · rw [fM_reading, t4]
          simp only [bd1, v4, f1]
          rw [if_neg (by decide), u1, if_neg m1, if_neg m2, if_pos trivial]
    · rw [eF] at wv
      refine ⟨-1, X, M, ?_, ?_, h⟩
      · simp [fX6_reading, fX2_changeReading, t3, hRF.1, f1, wX_M, w, bd1, bd2]
      · rw [fM_reading, t4]
        simp only [bd1, f1]
        rw [if_neg (by decide)]
        by_cases cc : b < 0
        · rw [if_pos cc]
        · rw [if_neg cc, if_pos]
          rw [Int32.lt_iff_toInt_lt] at cc
          simp only [Int32.reduceToInt] at cc wv
          rw [Int32.le_iff_toInt_le, nI_toInt (by omega)]
          omega
  · refine ⟨-1, X, M, ?_, ?_, h⟩
    · simp [fX6_reading, fX2_changeReading, t3, bd1, bd2]
    · simp [fM_reading, t4, bd1]
end
