/-! the bench: one part of one set -/
section
variable {N : Nat} {M X : St}
theorem sA_at {σ : St} {a j z : Nat} {v : Int32} : (sA σ a j v).2 a z = if z = j then v else σ.2 a z := by
  rw [sA_eq]
  rfl
def tX (X : St) (k j : Nat) (v : Int32) : St := sA (sA X (17 + 4 * k) j v) (18 + 4 * k) j (clp j (X.2 (15 + 4 * k) j + X.2 (16 + 4 * k) j + v))
def tM (M : St) (k j : Nat) (v : Int32) : St := sA M 6 (6 * k + j) v
def oX (X : St) (k j : Nat) (v : Int32) : St := sA (sA X (16 + 4 * k) j v) (18 + 4 * k) j (clp j (X.2 (15 + 4 * k) j + v + X.2 (17 + 4 * k) j))
def oM (M : St) (k j : Nat) (v : Int32) : St := sA M 5 (6 * k + j) v
theorem Rel_sX {X' M' : St} (h : Rel X M) (x1 : X'.1 = X.1) (x2 : ∀ a : Nat, a < 15 → X'.2 a = X.2 a) (m1 : M'.1 = M.1) (m2 : ∀ a : Nat, a ≠ 5 → a ≠ 6 → M'.2 a = M.2 a) (hB : RB X' M') (hB2 : ∀ k j : Nat, (M.1 8).toInt ≤ (k : Int) → k < 10 → j < 6 → M'.2 5 (6 * k + j) = 0 ∧ M'.2 6 (6 * k + j) = 0) : Rel X' M' := by
  obtain ⟨hD, ⟨hRT, hBT, hTC⟩, ⟨hRB, hBB⟩, hF⟩ := h
  refine ⟨?_, ?_, ⟨hB, ?_⟩, ?_⟩
  · unfold RD BD at *
    rw [x1, m1, x2 0 (by decide), x2 1 (by decide), x2 2 (by decide), m2 0 (by decide) (by decide), m2 1 (by decide) (by decide)]
    exact hD
  · unfold RT BT TC at *
    rw [x1, m1, x2 4 (by decide), x2 5 (by decide), x2 8 (by decide), m2 2 (by decide) (by decide), m2 3 (by decide) (by decide)]
    exact ⟨hRT, hBT, hTC⟩
  · unfold BB at *
    rw [m1, m2 4 (by decide) (by decide), m2 7 (by decide) (by decide), m2 8 (by decide) (by decide)]
    exact ⟨hBB.1, hBB.2.1, hBB.2.2.1, hB2, hBB.2.2.2.2⟩
  · unfold RF BF at *
    rw [x1, m1, x2 11 (by decide), x2 12 (by decide), x2 13 (by decide), m2 9 (by decide) (by decide), m2 10 (by decide) (by decide), m2 11 (by decide) (by decide)]
    exact hF
theorem ix6 {k j a b : Nat} (hj : j < 6) (hb : b < 6) : 6 * a + b = 6 * k + j ↔ a = k ∧ b = j := by omega
theorem Rel_tX {k j : Nat} (v : Int32) (h : Rel X M) (hk : (k : Int) < (M.1 8).toInt) (hj : j < 6) : Rel (tX X k j v) (tM M k j v) := by
  obtain ⟨r1, r2, r3, r4, r5⟩ := h.2.2.1.1
  have hb0 := h.2.2.1.2.1
  unfold BI at hb0
  refine Rel_sX h rfl (fun a ha => by unfold tX; rw [sA_ne (by omega), sA_ne (by omega)]) rfl (fun a _ h6 => sA_ne h6) ⟨r1, r2, ?_, ?_, fun a b ha hb => ?_⟩ (fun a b ha ha10 hb => ?_)
  · show (tX X k j v).2 9 = (tM M k j v).2 7
    unfold tX tM
    rw [sA_ne (by omega), sA_ne (by omega), sA_ne (by omega)]
    exact r3
  · show (tX X k j v).2 10 = (tM M k j v).2 8
    unfold tX tM
    rw [sA_ne (by omega), sA_ne (by omega), sA_ne (by omega)]
    exact r4
  · have ha' : (a : Int) < (M.1 8).toInt := ha
    obtain ⟨q1, q2, q3, q4⟩ := r5 a b ha' hb
    unfold tX tM
    rw [sA_ne (a := 6) (b := 4) (by omega), sA_ne (a := 6) (b := 5) (by omega), sA_at]
    rw [sA_ne (σ := sA X (17 + 4 * k) j v) (b := 15 + 4 * a) (by omega), sA_ne (σ := X) (b := 15 + 4 * a) (by omega), sA_ne (σ := sA X (17 + 4 * k) j v) (b := 16 + 4 * a) (by omega), sA_ne (σ := X) (b := 16 + 4 * a) (by omega), sA_ne (σ := sA X (17 + 4 * k) j v) (b := 17 + 4 * a) (by omega)]
    refine ⟨q1, q2, ?_⟩
    by_cases c : a = k
    · subst c
      rw [sA_at, sA_at, sA_ne (σ := X) (b := 18 + 4 * a) (by omega)]
      by_cases c2 : b = j
      · subst c2
        rw [if_pos rfl, if_pos rfl, if_pos rfl, q1, q2]
        exact ⟨rfl, rfl⟩
      · rw [if_neg c2, if_neg (by omega), if_neg c2]
        exact ⟨q3, q4⟩
    · rw [sA_ne (σ := X) (b := 17 + 4 * a) (by omega), sA_ne (σ := sA X (17 + 4 * k) j v) (b := 18 + 4 * a) (by omega), sA_ne (σ := X) (b := 18 + 4 * a) (by omega), if_neg (by omega)]
      exact ⟨q3, q4⟩
  · have := h.2.2.1.2.2.2.2.1 a b ha ha10 hb
    unfold tM
    rw [sA_ne (a := 6) (b := 5) (by omega), sA_at, if_neg (by omega)]
    exact this
theorem Rel_oX {k j : Nat} (v : Int32) (h : Rel X M) (hk : (k : Int) < (M.1 8).toInt) (hj : j < 6) : Rel (oX X k j v) (oM M k j v) := by
  obtain ⟨r1, r2, r3, r4, r5⟩ := h.2.2.1.1
  have hb0 := h.2.2.1.2.1
  unfold BI at hb0
  refine Rel_sX h rfl (fun a ha => by unfold oX; rw [sA_ne (by omega), sA_ne (by omega)]) rfl (fun a h5 _ => sA_ne h5) ⟨r1, r2, ?_, ?_, fun a b ha hb => ?_⟩ (fun a b ha ha10 hb => ?_)
  · show (oX X k j v).2 9 = (oM M k j v).2 7
    unfold oX oM
    rw [sA_ne (by omega), sA_ne (by omega), sA_ne (by omega)]
    exact r3
  · show (oX X k j v).2 10 = (oM M k j v).2 8
    unfold oX oM
    rw [sA_ne (by omega), sA_ne (by omega), sA_ne (by omega)]
    exact r4
  · have ha' : (a : Int) < (M.1 8).toInt := ha
    obtain ⟨q1, q2, q3, q4⟩ := r5 a b ha' hb
    unfold oX oM
    rw [sA_ne (a := 5) (b := 4) (by omega), sA_ne (a := 5) (b := 6) (by omega), sA_at]
    rw [sA_ne (σ := sA X (16 + 4 * k) j v) (b := 15 + 4 * a) (by omega), sA_ne (σ := X) (b := 15 + 4 * a) (by omega), sA_ne (σ := sA X (16 + 4 * k) j v) (b := 17 + 4 * a) (by omega), sA_ne (σ := X) (b := 17 + 4 * a) (by omega), sA_ne (σ := sA X (16 + 4 * k) j v) (b := 16 + 4 * a) (by omega)]
    refine ⟨q1, ?_⟩
    by_cases c : a = k
    · subst c
      rw [sA_at, sA_at, sA_ne (σ := X) (b := 18 + 4 * a) (by omega)]
      by_cases c2 : b = j
      · subst c2
        rw [if_pos rfl, if_pos rfl, if_pos rfl, q1, q3]
        exact ⟨rfl, rfl, rfl⟩
      · rw [if_neg c2, if_neg (by omega), if_neg c2]
        exact ⟨q2, q3, q4⟩
    · rw [sA_ne (σ := X) (b := 16 + 4 * a) (by omega), sA_ne (σ := sA X (16 + 4 * k) j v) (b := 18 + 4 * a) (by omega), sA_ne (σ := X) (b := 18 + 4 * a) (by omega), if_neg (by omega)]
      exact ⟨q2, q3, q4⟩
  · have := h.2.2.1.2.2.2.2.1 a b ha ha10 hb
    unfold oM
    rw [sA_ne (a := 5) (b := 6) (by omega), sA_at, if_neg (by omega)]
    exact this
theorem gk_ok {α : Type} {k : Nat} {x : Option α} (h : k < (X.1 10).toNatClampNeg) : gk k X x = x := if_pos h
theorem setsX (h : Rel X M) {k : Nat} (hk : (k : Int) < (M.1 8).toInt) : k < (X.1 10).toNatClampNeg := by
  have hb := h.2.2.1.2.1
  unfold BI at hb
  have e := tnI (x := X.1 10) (by rw [h.2.2.1.1.1]; omega)
  rw [h.2.2.1.1.1] at e
  rw [h.2.2.1.1.1]
  omega
theorem turn_X {k j : Nat} {st : Int32} (hk : k < (X.1 10).toNatClampNeg) (hj : j < 6) : fX3_turn N k X (nI j) st = some (tX X k j (X.2 (17 + 4 * k) j + st)) := by
  have hjI : (nI j).toInt = (j : Int) := nI_toInt (by omega)
  have g : ∀ x : Option St, gi (nI j) 6 x = x := fun x => gi_ok (by omega) (by omega)
  have hk2 : k < ((sA X (17 + 4 * k) j (X.2 (17 + 4 * k) j + st)).1 10).toNatClampNeg := hk
  rw [fX3_turn, gk_ok hk, g, g, tn_nI (by omega), fX3_settle, gk_ok hk2, g, g, g, g, g, g, tn_nI (by omega), sA_ne (σ := X) (b := 15 + 4 * k) (by omega), sA_ne (σ := X) (b := 16 + 4 * k) (by omega), sA_at, if_pos rfl]
  rfl
theorem chg_X {k j : Nat} {v : Int32} (hk : k < (X.1 10).toNatClampNeg) (hj : j < 6) : fX3_changeOffset N k X (nI j) v = some (X.2 (16 + 4 * k) j, oX X k j v) := by
  have hjI : (nI j).toInt = (j : Int) := nI_toInt (by omega)
  have g : ∀ x : Option St, gi (nI j) 6 x = x := fun x => gi_ok (by omega) (by omega)
  have g2 : ∀ x : Option (Int32 × St), gi (nI j) 6 x = x := fun x => gi_ok (by omega) (by omega)
  have hk2 : k < ((sA X (16 + 4 * k) j v).1 10).toNatClampNeg := hk
  rw [fX3_changeOffset, gk_ok hk, g2, g2, tn_nI (by omega), fX3_settle, gk_ok hk2, g, g, g, g, g, g, tn_nI (by omega), sA_ne (σ := X) (b := 15 + 4 * k) (by omega), sA_ne (σ := X) (b := 17 + 4 * k) (by omega), sA_at, if_pos rfl]
  rfl
theorem clp_I (j : Nat) (v : Int32) : BI (clp j v) (st2 j).toInt (st3 j).toInt := by
  have a := st2_I j
  have b := st3_I j
  have hle : (st2 j).toInt ≤ (st3 j).toInt := by rw [a, b]; repeat (first | omega | split)
  unfold BI clp jmax jmin
  split <;> split <;> rename_i h1 h2 <;> simp only [Int32.lt_iff_toInt_lt] at h1 h2 <;> first | omega | (split at h1 <;> omega)
theorem six {k j : Nat} (hk : k < 10) (hj : j < 6) : 6 * nI k + nI j = nI (6 * k + j) := by
  have : (6 : Int32) * nI k = nI (6 * k) := pk_mul 6 k
  rw [this, nI_add]
set_option maxHeartbeats 1000000 in
theorem val_M {k j : Nat} (hk : k < 10) (hj : j < 6) : fM_valueOf N M (nI k) (nI j) = some (clp j (M.2 4 (6 * k + j) + M.2 5 (6 * k + j) + M.2 6 (6 * k + j))) := by
  have hI : (nI (6 * k + j)).toInt = ((6 * k + j : Nat) : Int) := nI_toInt (by omega)
  have g : ∀ x : Option Int32, gi (nI (6 * k + j)) 60 x = x := fun x => gi_ok (by omega) (by omega)
  unfold fM_valueOf
  rw [six hk hj, tn_nI (by omega)]
  generalize M.2 4 (6 * k + j) + M.2 5 (6 * k + j) + M.2 6 (6 * k + j) = v
  rw [g, g, g]
  have key : ∀ lo hi : Int32, lo ≤ hi → (if lo ≤ v then (if v ≤ hi then some v else some hi) else some lo) = some (jmax lo (jmin hi v)) := fun lo hi hl => by
    unfold jmax jmin
    by_cases c1 : v < hi
    · rw [if_pos c1]
      by_cases c2 : lo ≤ v
      · rw [if_pos c2, if_pos (Int32.le_of_lt c1)]
        by_cases c3 : lo < v
        · rw [if_pos c3]
        · rw [if_neg c3, Int32.le_antisymm c2 (Int32.not_lt.mp c3)]
      · rw [if_neg c2, if_neg (fun z => c2 (Int32.le_of_lt z))]
    · have c1' := Int32.not_lt.mp c1
      rw [if_neg c1, if_pos (Int32.le_trans hl c1')]
      have e1 : (if v ≤ hi then some v else some hi) = some hi := by
        by_cases c4 : v ≤ hi
        · rw [if_pos c4, Int32.le_antisymm c4 c1']
        · rw [if_neg c4]
      rw [e1]
      by_cases c5 : lo < hi
      · rw [if_pos c5]
      · rw [if_neg c5, Int32.le_antisymm hl (Int32.not_lt.mp c5)]
  rcases (show j = 0 ∨ j = 1 ∨ j = 2 ∨ j = 3 ∨ j = 4 ∨ j = 5 by omega) with rfl | rfl | rfl | rfl | rfl | rfl
  · exact key 0 99 (by decide)
  · exact key 0 99 (by decide)
  · exact key 1 9999 (by decide)
  · exact key 1 9999 (by decide)
  · exact key 1 9999 (by decide)
  · exact key 20 900 (by decide)
end
