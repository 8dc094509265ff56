/-! the class's walk over the spurs -/
section
variable {N : Nat} {M X σ : St}
def tkF (σ : St) (e : E4) (wt : Int32) : St := if σ.1 2 = σ.1 1 then sA (sA (sA (sA (sA σ 3 0 e.1) 3 1 e.2.1) 3 2 e.2.2.1) 3 3 e.2.2.2) 3 4 wt else σ
def tkH (σ : St) (wt : Int32) : St := if wt ≤ σ.1 5 then σ else s1 (s1 σ 5 wt) 4 (σ.1 2)
def tkS (σ : St) (e : E4) (wt : Int32) : St := s1 (s1 (tkH (tkF σ e wt) wt) 3 (σ.1 3 + wt)) 2 (σ.1 2 + 1)
theorem take_eq (j p q h wt : Int32) : fX4_take N σ j p q h wt = some (tkS σ (j, p, q, h) wt) := by
  unfold fX4_take tkS tkH tkF
  by_cases c : σ.1 2 = σ.1 1
  · rw [if_pos c, if_pos c]
    by_cases c2 : wt ≤ σ.1 5
    · rw [if_pos c2, if_pos (show wt ≤ (sA (sA (sA (sA (sA σ 3 0 j) 3 1 p) 3 2 q) 3 3 h) 3 4 wt).1 5 from c2)]
      rfl
    · rw [if_neg c2, if_neg (show ¬ wt ≤ (sA (sA (sA (sA (sA σ 3 0 j) 3 1 p) 3 2 q) 3 3 h) 3 4 wt).1 5 from c2)]
      rfl
  · rw [if_neg c, if_neg c]
    by_cases c2 : wt ≤ σ.1 5
    · rw [if_pos c2, if_pos c2]
    · rw [if_neg c2, if_neg c2]
/-- the same but for the tally -/
def DX (σ X : St) : Prop := (∀ k : Nat, (k = 0 ∨ 6 ≤ k) → σ.1 k = X.1 k) ∧ (∀ a : Nat, a ≠ 3 → σ.2 a = X.2 a)
theorem DX_s1 {k : Nat} {v : Int32} (h : DX σ X) (h1 : 1 ≤ k) (h5 : k ≤ 5) : DX (s1 σ k v) X := by
  refine ⟨fun z hz => ?_, h.2⟩
  show upd σ.1 k v z = _
  rw [upd_ne (by omega)]
  exact h.1 z hz
theorem DX_s3 {j : Nat} {v : Int32} (h : DX σ X) : DX (sA σ 3 j v) X := ⟨h.1, fun a ha => by rw [sA_ne ha]; exact h.2 a ha⟩
theorem DX_tk {e : E4} {wt : Int32} (h : DX σ X) : DX (tkS σ e wt) X := by
  have h1 : DX (tkF σ e wt) X := by
    unfold tkF
    split
    · exact DX_s3 (DX_s3 (DX_s3 (DX_s3 (DX_s3 h))))
    · exact h
  have h2 : DX (tkH (tkF σ e wt) wt) X := by
    unfold tkH
    split
    · exact h1
    · exact DX_s1 (DX_s1 h1 (by decide) (by decide)) (by decide) (by decide)
  exact DX_s1 (DX_s1 h2 (by decide) (by decide)) (by decide) (by decide)
def wtS (M : St) (e : E4) : Int32 := M.2 1 e.1.toNatClampNeg / (e.2.1 * e.2.2.1)
def stX (M : St) (σ : St) (e : E4) : St := tkS σ e (wtS M e)
theorem DX_fold : ∀ (l : List E4) (s : St), DX s X → DX (l.foldl (stX M) s) X := by
  intro l
  induction l with
  | nil => intro s h; exact h
  | cons e l ih => intro s h; exact ih _ (DX_tk h)
theorem fallsOn_X (hRD : RD X M) (h : DX σ X) (s m : Int32) : fX1_fallsOn N σ s m = some (if jabs (jabs s - m) ≤ M.1 4 then 1 else 0) := by
  have e : σ.2 2 (3 : Int32).toNatClampNeg = M.1 4 := by rw [h.2 2 (by decide)]; exact hRD.2.2.2.2.2.2
  unfold fX1_fallsOn
  rw [e]
  by_cases c : jabs (jabs s - m) ≤ M.1 4
  · rw [if_neg (Int32.not_lt.mpr c), if_pos c]
  · rw [if_pos (nle c), if_neg c]
/-- beyond its reach no sum falls on the middle -/
theorem beyond {i j p q q' : Nat} {m o : Int32} (hB : BD M) (hm : BI m 20 900) (ho : BI o 1 3900) (hj : (j : Int) < (M.1 0).toInt) (hp : p ≤ 5) (hq : q' ≤ 5) (hqq : q ≤ q') (hc : ¬ nI q * o - nI p * M.2 0 j ≤ m + M.1 4) : evQ M i m o j p q' = [] := by
  obtain ⟨b0, b1, b2, b3, b4, b5⟩ := hB
  have hf := (b1 j hj).1
  unfold BI at *
  have eq1 : (nI q).toInt = (q : Int) := nI_toInt (by omega)
  have eq2 : (nI q').toInt = (q' : Int) := nI_toInt (by omega)
  have ep : (nI p).toInt = (p : Int) := nI_toInt (by omega)
  have m1 : (q : Int) * o.toInt ≤ (q' : Int) * o.toInt := Int.mul_le_mul_of_nonneg_right (by omega) (by omega)
  have m2 : (q' : Int) * o.toInt ≤ 5 * 3900 := Int.mul_le_mul (by omega) (by omega) (by omega) (by omega)
  have m3 : 0 ≤ (q : Int) * o.toInt := Int.mul_nonneg (by omega) (by omega)
  have m4 : (p : Int) * (M.2 0 j).toInt ≤ 5 * 3000 := Int.mul_le_mul (by omega) (by omega) (by omega) (by omega)
  have m5 : 0 ≤ (p : Int) * (M.2 0 j).toInt := Int.mul_nonneg (by omega) (by omega)
  have t1 : (nI q * o).toInt = (q : Int) * o.toInt := by rw [i32_mul (by rw [eq1]; omega) (by rw [eq1]; omega), eq1]
  have t2 : (nI q' * o).toInt = (q' : Int) * o.toInt := by rw [i32_mul (by rw [eq2]; omega) (by rw [eq2]; omega), eq2]
  have t3 : (nI p * M.2 0 j).toInt = (p : Int) * (M.2 0 j).toInt := by rw [i32_mul (by rw [ep]; omega) (by rw [ep]; omega), ep]
  have t4 : (nI q * o - nI p * M.2 0 j).toInt = (q : Int) * o.toInt - (p : Int) * (M.2 0 j).toInt := by rw [i32_sub (by omega) (by omega), t1, t3]
  have t5 : (m + M.1 4).toInt = m.toInt + (M.1 4).toInt := i32_add (by omega) (by omega)
  have hc' : m.toInt + (M.1 4).toInt < (q : Int) * o.toInt - (p : Int) * (M.2 0 j).toInt := by
    have h9 : ¬ (nI q * o - nI p * M.2 0 j).toInt ≤ (m + M.1 4).toInt := fun z => hc (Int32.le_iff_toInt_le.mpr z)
    rw [t4, t5] at h9
    omega
  have u1 : (nI p * M.2 0 j + nI q' * o).toInt = (p : Int) * (M.2 0 j).toInt + (q' : Int) * o.toInt := by rw [i32_add (by omega) (by omega), t2, t3]
  have u2 : (nI p * M.2 0 j - nI q' * o).toInt = (p : Int) * (M.2 0 j).toInt - (q' : Int) * o.toInt := by rw [i32_sub (by omega) (by omega), t2, t3]
  have no : ∀ s : Int32, (m.toInt + (M.1 4).toInt < s.toInt ∨ s.toInt < -(m.toInt + (M.1 4).toInt)) → -100000 ≤ s.toInt → s.toInt ≤ 100000 → ¬ jabs (jabs s - m) ≤ M.1 4 := fun s h1 h2 h3 z => by
    have z1 := Int32.le_iff_toInt_le.mp z
    have j1 := jabs_I s (by omega)
    have j2 : (jabs s - m).toInt = (jabs s).toInt - m.toInt := i32_sub (by rw [j1]; split <;> omega) (by rw [j1]; split <;> omega)
    rw [jabs_I _ (by rw [j2, j1]; split <;> omega), j2, j1] at z1
    split at z1 <;> split at z1 <;> omega
  have n1 := no (smv M o j p q' true) (by show _ < (nI p * M.2 0 j + nI q' * o).toInt ∨ _; rw [u1]; omega) (by show _ ≤ (nI p * M.2 0 j + nI q' * o).toInt; rw [u1]; omega) (by show (nI p * M.2 0 j + nI q' * o).toInt ≤ _; rw [u1]; omega)
  have n2 := no (smv M o j p q' false) (by show _ ∨ (nI p * M.2 0 j - nI q' * o).toInt < _; rw [u2]; omega) (by show _ ≤ (nI p * M.2 0 j - nI q' * o).toInt; rw [u2]; omega) (by show (nI p * M.2 0 j - nI q' * o).toInt ≤ _; rw [u2]; omega)
  unfold evQ flv
  simp [n1, n2]
theorem evR_nil {g : Nat → List E4} : ∀ (d k : Nat), (∀ z : Nat, k ≤ z → z < k + d → g z = []) → evR g d k = [] := by
  intro d
  induction d with
  | zero => intro k _; rfl
  | succ d ih =>
    intro k h
    show g k ++ evR g d (k + 1) = []
    rw [h k (by omega) (by omega), ih (k + 1) (fun z h1 h2 => h z (by omega) (by omega))]
    rfl
theorem ga24 {i j p ord : Nat} {m o : Int32} (hRD : RD X M) (hB : BD M) (hm : BI m 20 900) (ho : BI o 1 3900) (hj : (j : Int) < (M.1 0).toInt) (hp1 : 1 ≤ p) (hp : p ≤ 5) (hor : M.1 3 = nI ord) (h5 : ord ≤ 5) : ∀ (d q n : Nat) (s : St), q + d = ord + 1 → 1 ≤ q → d < n → (j = i → p = 1 → 2 ≤ q) → DX s X → fX1_gatherSums_L24 N (nI j) (nI p) o m (nI p * M.2 0 j) (m + M.1 4) n (nI q) s = some ((evR (evQ M i m o j p) d q).foldl (stX M) s) := by
  have hj20 : j < 20 := by have := hB.1; unfold BI at this; omega
  have hjI : (nI j).toInt = (j : Int) := nI_toInt (by omega)
  have ho0 : 0 < o := Int32.lt_iff_toInt_lt.mpr (by unfold BI at ho; simp only [Int32.reduceToInt]; omega)
  intro d
  induction d with
  | zero =>
    intro q n s hq h1 hn hne h
    obtain ⟨n, rfl⟩ : ∃ z, n = z + 1 := ⟨n - 1, by omega⟩
    have e3 : s.2 2 (2 : Int32).toNatClampNeg = nI ord := by rw [h.2 2 (by decide)]; exact hRD.2.2.2.2.2.1.trans hor
    rw [fX1_gatherSums_L24.eq_2, if_pos (by rw [e3]; exact nI_lt (by omega) (by omega))]
    rfl
  | succ d ih =>
    intro q n s hq h1 hn hne h
    obtain ⟨n, rfl⟩ : ∃ z, n = z + 1 := ⟨n - 1, by omega⟩
    have e3 : s.2 2 (2 : Int32).toNatClampNeg = nI ord := by rw [h.2 2 (by decide)]; exact hRD.2.2.2.2.2.1.trans hor
    rw [fX1_gatherSums_L24.eq_2, if_neg (by rw [e3]; exact nI_nlt (by omega) (by omega)), nI_1]
    by_cases c : nI q * o - nI p * M.2 0 j ≤ m + M.1 4
    · rw [if_pos c, fallsOn_X hRD h, fallsOn_X hRD h]
      have hnz : ¬ (nI p * nI q).toInt = 0 := by
        rw [pk_mul, nI_toInt (by have : p * q ≤ 5 * 5 := Nat.mul_le_mul (by omega) (by omega)
                                 omega)]
        have : 0 < p * q := Nat.mul_pos (by omega) (by omega)
        omega
      have g : ∀ x : Option St, gi (nI j) 20 x = x := fun x => gi_ok (by omega) (by omega)
      have gz : ∀ x : Option St, nz (nI p * nI q) x = x := fun x => nz_ok hnz
      have ewt : ∀ (s : St) (z : Int32), DX s X → s.2 1 (nI j).toNatClampNeg / (nI p * nI q) = wtS M (nI j, nI p, nI q, z) := fun s z hs => by
        show _ = M.2 1 (nI j).toNatClampNeg / (nI p * nI q)
        rw [hs.2 1 (by decide), hRD.2.2.1]
      have fT : flv M i m o j p q true = decide (jabs (jabs (nI p * M.2 0 j + nI q * o) - m) ≤ M.1 4) := by
        unfold flv
        rw [decide_eq_true ho0]
        have : ¬ (j = i ∧ p = 1 ∧ q = 1) := fun z => by have := hne z.1 z.2.1; omega
        by_cases c1 : j = i <;> by_cases c2 : p = 1 <;> by_cases c3 : q = 1 <;> simp [c1, c2, c3, smv] <;> exact absurd ⟨c1, c2, c3⟩ this
      have fF : flv M i m o j p q false = decide (jabs (jabs (nI p * M.2 0 j - nI q * o) - m) ≤ M.1 4) := by
        unfold flv
        rw [decide_eq_true ho0]
        have : ¬ (j = i ∧ p = 1 ∧ q = 1) := fun z => by have := hne z.1 z.2.1; omega
        by_cases c1 : j = i <;> by_cases c2 : p = 1 <;> by_cases c3 : q = 1 <;> simp [c1, c2, c3, smv] <;> exact absurd ⟨c1, c2, c3⟩ this
      have ih' : ∀ s : St, DX s X → fX1_gatherSums_L24 N (nI j) (nI p) o m (nI p * M.2 0 j) (m + M.1 4) n (nI (q + 1)) s = some ((evR (evQ M i m o j p) d (q + 1)).foldl (stX M) s) := fun s hs => ih (q + 1) n s (by omega) (by omega) (by omega) (fun _ _ => by omega) hs
      show _ = some ((evQ M i m o j p q ++ evR (evQ M i m o j p) d (q + 1)).foldl (stX M) s)
      rw [List.foldl_append, evQ, List.foldl_append, fT, fF]
      by_cases cT : jabs (jabs (nI p * M.2 0 j + nI q * o) - m) ≤ M.1 4
      · have h2 : DX (stX M s (nI j, nI p, nI q, 1)) X := DX_tk h
        simp only [cT, if_true, bd1, g, gz, take_eq, ewt s 1 h, decide_true, List.foldl_cons, List.foldl_nil]
        rw [if_neg (by decide)]
        have es : tkS s (nI j, nI p, nI q, 1) (wtS M (nI j, nI p, nI q, 1)) = stX M s (nI j, nI p, nI q, 1) := rfl
        rw [es, fallsOn_X hRD h2]
        by_cases cF : jabs (jabs (nI p * M.2 0 j - nI q * o) - m) ≤ M.1 4
        · simp only [cF, if_true, ewt _ 0 h2, decide_true, List.foldl_cons, List.foldl_nil]
          rw [if_neg (by decide)]
          exact ih' _ (DX_tk h2)
        · simp only [cF, if_false, decide_false, List.foldl_nil]
          exact ih' _ h2
      · simp only [cT, if_false, bd1, g, gz, take_eq, decide_false, List.foldl_nil]
        by_cases cF : jabs (jabs (nI p * M.2 0 j - nI q * o) - m) ≤ M.1 4
        · simp only [cF, if_true, ewt s 0 h, decide_true, List.foldl_cons, List.foldl_nil]
          rw [if_neg (by decide)]
          exact ih' _ (DX_tk h)
        · simp only [cF, if_false, decide_false, List.foldl_nil]
          exact ih' _ h
    · rw [if_neg c, evR_nil (d + 1) q (fun z h1 h2 => beyond hB hm ho hj hp (by omega) h1 c)]
      rfl
end
