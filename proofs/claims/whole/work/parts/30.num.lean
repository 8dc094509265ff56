/-! numbers -/
section
theorem i32_lo (x : Int32) : -2147483648 ≤ x.toInt := Int32.le_toInt x
theorem i32_hi (x : Int32) : x.toInt < 2147483648 := Int32.toInt_lt x
theorem i32_add {a b : Int32} (h1 : -2147483648 ≤ a.toInt + b.toInt) (h2 : a.toInt + b.toInt < 2147483648) : (a + b).toInt = a.toInt + b.toInt := by
  rw [Int32.toInt_add]
  exact Int.bmod_eq_of_le (by omega) (by omega)
theorem i32_sub {a b : Int32} (h1 : -2147483648 ≤ a.toInt - b.toInt) (h2 : a.toInt - b.toInt < 2147483648) : (a - b).toInt = a.toInt - b.toInt := by
  rw [Int32.toInt_sub]
  exact Int.bmod_eq_of_le (by omega) (by omega)
theorem i32_mul {a b : Int32} (h1 : -2147483648 ≤ a.toInt * b.toInt) (h2 : a.toInt * b.toInt < 2147483648) : (a * b).toInt = a.toInt * b.toInt := by
  rw [Int32.toInt_mul]
  exact Int.bmod_eq_of_le (by omega) (by omega)
theorem i32_neg {a : Int32} (h : -2147483648 < a.toInt) : (-a).toInt = -a.toInt := by
  rw [Int32.toInt_neg]
  have := i32_hi a
  exact Int.bmod_eq_of_le (by omega) (by omega)
theorem i32_ext {a b : Int32} (h : a.toInt = b.toInt) : a = b := Int32.toInt_inj.mp h
theorem tnI {x : Int32} (h : 0 ≤ x.toInt) : (x.toNatClampNeg : Int) = x.toInt := Int.toNat_of_nonneg h
theorem tn_nI {n : Nat} (h : n < 2147483648) : (nI n).toNatClampNeg = n := nI_clamp (by omega)
theorem gi_ok {α : Type} {i : Int32} {n : Nat} {x : Option α} (h0 : 0 ≤ i.toInt) (h1 : i.toInt < n) : gi i n x = x := by
  unfold gi
  exact if_neg (vp_in_iff.mpr ⟨h0, h1⟩)
theorem nz_ok {α : Type} {v : Int32} {x : Option α} (h : ¬ v.toInt = 0) : nz v x = x := by
  unfold nz
  exact if_neg (fun e => h (by rw [e]; decide))
theorem bz0 {α : Type} {x : Option α} : bz 0 x = x := rfl
theorem bz1 {α : Type} {x : Option α} : bz 1 x = x := rfl
theorem jabs_I (x : Int32) (h : -2147483648 < x.toInt) : (jabs x).toInt = (if 0 ≤ x.toInt then x.toInt else -x.toInt) := by
  unfold jabs
  have e : (0 ≤ x) ↔ (0 ≤ x.toInt) := by simp only [Int32.le_iff_toInt_le, Int32.reduceToInt]
  by_cases c : 0 ≤ x.toInt
  · rw [if_pos (e.mpr c), if_pos c]
  · rw [if_neg (fun z => c (e.mp z)), if_neg c, i32_sub (by simp only [Int32.reduceToInt]; omega) (by simp only [Int32.reduceToInt]; omega)]
    simp only [Int32.reduceToInt]
    omega
theorem size_eq (N : Nat) (x : Int32) : fM_size N x = some (jabs x) := by
  unfold fM_size jabs
  by_cases c : 0 ≤ x
  · rw [if_pos c, if_pos c]
  · rw [if_neg c, if_neg c]
    congr 1
theorem wX_M (N : Nat) (v a b : Int32) : fX6_within N v a b = fM_within N v a b := rfl
theorem wi1 {N : Nat} {v a b : Int32} (h1 : a.toInt ≤ v.toInt) (h2 : v.toInt ≤ b.toInt) : fM_within N v a b = some 1 := by
  unfold fM_within
  rw [if_neg (fun h => by have := Int32.lt_iff_toInt_lt.mp h; omega), if_neg (fun h => by have := Int32.lt_iff_toInt_lt.mp h; omega)]
theorem wi0 {N : Nat} {v a b : Int32} (h : v.toInt < a.toInt ∨ b.toInt < v.toInt) : fM_within N v a b = some 0 := by
  unfold fM_within
  by_cases c : v < a
  · rw [if_pos c]
  · rw [if_neg c, if_pos]
    have hc : ¬ v.toInt < a.toInt := fun z => c (Int32.lt_iff_toInt_lt.mpr z)
    exact Int32.lt_iff_toInt_lt.mpr (by omega)
theorem upd_eq {f : Nat → Int32} {k : Nat} {v : Int32} : upd f k v k = v := if_pos rfl
theorem upd_ne {f : Nat → Int32} {k j : Nat} {v : Int32} (h : j ≠ k) : upd f k v j = f j := if_neg h
def BI (x : Int32) (lo hi : Int) : Prop := lo ≤ x.toInt ∧ x.toInt ≤ hi
theorem within_cases (N : Nat) (v a b : Int32) : (fM_within N v a b = some 1 ∧ BI v a.toInt b.toInt) ∨ (fM_within N v a b = some 0 ∧ (v.toInt < a.toInt ∨ b.toInt < v.toInt)) := by
  by_cases c : v.toInt < a.toInt ∨ b.toInt < v.toInt
  · exact Or.inr ⟨wi0 c, c⟩
  · exact Or.inl ⟨wi1 (by omega) (by omega), by unfold BI; omega⟩
/-! the relation between the class's state and the reference's -/
def tun (L C : Int32) : Int32 := (fX5_tunedTo 5000 L C).getD 0
def RD (X M : St) : Prop := X.1 0 = M.1 0 ∧ X.2 0 = M.2 0 ∧ X.2 1 = M.2 1 ∧ X.2 2 0 = M.1 1 ∧ X.2 2 1 = M.1 2 ∧ X.2 2 2 = M.1 3 ∧ X.2 2 3 = M.1 4
def BD (M : St) : Prop := BI (M.1 0) 0 20 ∧ (∀ j : Nat, (j : Int) < (M.1 0).toInt → BI (M.2 0 j) 100 3000 ∧ BI (M.2 1 j) 1 999) ∧ BI (M.1 1) 20 900 ∧ BI (M.1 2) 0 1 ∧ BI (M.1 3) 1 5 ∧ BI (M.1 4) 0 50
def RT (X M : St) : Prop := X.1 6 = M.1 5 ∧ X.1 7 = M.1 6 ∧ X.1 8 = M.1 7 ∧ X.2 5 = M.2 3 ∧ (∀ j : Nat, j < 5 → X.2 4 j = M.2 2 j)
def BT (M : St) : Prop := BI (M.1 5) 10 999 ∧ BI (M.1 6) 10 999 ∧ BI (M.1 7) 0 5 ∧ (∀ j : Nat, (j : Int) < (M.1 7).toInt → BI (M.2 3 j) 0 100) ∧ (∀ i j : Nat, (i : Int) < (M.1 7).toInt → (j : Int) < (M.1 7).toInt → M.2 3 i = M.2 3 j → i = j) ∧ (∀ j : Nat, j < 2 → BI (M.2 2 j) 0 99) ∧ (∀ j : Nat, 2 ≤ j → j < 5 → BI (M.2 2 j) 1 9999)
def TC (X : St) : Prop := X.1 9 = 0 ∨ (BI (X.1 9) 1 9999 ∧ ∀ c : Nat, 1 ≤ c → c ≤ 1098 → X.2 8 c = tun (X.1 9) (nI c))
/-- what a part is held to -/
def clp (j : Nat) (v : Int32) : Int32 := jmax (st2 j) (jmin (st3 j) v)
def RB (X M : St) : Prop := X.1 10 = M.1 8 ∧ X.1 11 = M.1 9 ∧ X.2 9 = M.2 7 ∧ X.2 10 = M.2 8 ∧ ∀ k j : Nat, (k : Int) < (M.1 8).toInt → j < 6 → X.2 (15 + 4 * k) j = M.2 4 (6 * k + j) ∧ X.2 (16 + 4 * k) j = M.2 5 (6 * k + j) ∧ X.2 (17 + 4 * k) j = M.2 6 (6 * k + j) ∧ X.2 (18 + 4 * k) j = clp j (M.2 4 (6 * k + j) + M.2 5 (6 * k + j) + M.2 6 (6 * k + j))
def BB (M : St) : Prop := BI (M.1 8) 0 10 ∧ BI (M.1 9) 0 8 ∧ (∀ j : Nat, (j : Int) < (M.1 9).toInt → BI (M.2 7 j) 0 5 ∧ BI (M.2 8 j) 1 20) ∧ (∀ k j : Nat, (M.1 8).toInt ≤ (k : Int) → k < 10 → j < 6 → M.2 5 (6 * k + j) = 0 ∧ M.2 6 (6 * k + j) = 0) ∧ (∀ k j : Nat, (k : Int) < (M.1 8).toInt → j < 6 → BI (M.2 4 (6 * k + j)) (st2 j).toInt (st3 j).toInt)
def bitv (x : Int32) (f : Nat) : Bool := x.toBitVec.toNat.testBit f
def RF (X M : St) : Prop := X.1 12 = M.1 10 ∧ X.1 13 = M.1 11 ∧ X.1 14 = M.1 12 ∧ X.2 11 = M.2 9 ∧ X.2 12 = M.2 10 ∧ (∀ t r f : Nat, t < 12 → r < 4 → f < 12 → (bitv (X.2 13 (4 * t + r)) f = true ↔ M.2 11 (12 * t + f) = nI r)) ∧ (∀ t r : Nat, t < 12 → r < 4 → BI (X.2 13 (4 * t + r)) 0 4095)
def BF (M : St) : Prop := BI (M.1 10) 0 12 ∧ BI (M.1 11) 0 12 ∧ (∃ S : Nat, S < 2 ^ (M.1 10).toNatClampNeg ∧ M.1 12 = nI S) ∧ (∀ j : Nat, (j : Int) < (M.1 10).toInt → BI (M.2 9 j) 1 99) ∧ (∀ j : Nat, (j : Int) < (M.1 11).toInt → BI (M.2 10 j) 1 99) ∧ (∀ t f : Nat, t < 12 → f < 12 → BI (M.2 11 (12 * t + f)) 0 3)
def Rel (X M : St) : Prop := (RD X M ∧ BD M) ∧ (RT X M ∧ BT M ∧ TC X) ∧ (RB X M ∧ BB M) ∧ (RF X M ∧ BF M)
end
