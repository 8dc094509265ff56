/-! tracking: what is tuned where, and the errors -/
section
variable {N : Nat} {X M : St}
def capS (lo hi p : Int32) : Int32 := lo + ((hi - lo) * p) / 100
theorem tdiv100 {x : Int} (d : Int) (h1 : -d * 100 ≤ x) (h2 : x ≤ d * 100) : -d ≤ x.tdiv 100 ∧ x.tdiv 100 ≤ d := by
  by_cases c : 0 ≤ x
  · rw [Int.tdiv_eq_ediv_of_nonneg c]
    omega
  · have e : x = -(-x) := by omega
    rw [e, Int.neg_tdiv, Int.tdiv_eq_ediv_of_nonneg (by omega)]
    omega
theorem tdiv_sg {x : Int} : (0 ≤ x → 0 ≤ x.tdiv 100) ∧ (x ≤ 0 → x.tdiv 100 ≤ 0) := by
  constructor
  · intro c
    rw [Int.tdiv_eq_ediv_of_nonneg c]
    omega
  · intro c
    have e : x = -(-x) := by omega
    rw [e, Int.neg_tdiv, Int.tdiv_eq_ediv_of_nonneg (by omega)]
    omega
theorem cap_ok {lo hi p : Int32} (h1 : BI lo 10 999) (h2 : BI hi 10 999) (h3 : BI p 0 100) : BI (capS lo hi p) 10 999 := by
  unfold BI at h1 h2 h3
  obtain ⟨l1, l2⟩ := h1
  obtain ⟨m1, m2⟩ := h2
  obtain ⟨p1, p2⟩ := h3
  have e1 : (hi - lo).toInt = hi.toInt - lo.toInt := i32_sub (by omega) (by omega)
  have b1 : (hi.toInt - lo.toInt) * p.toInt ≤ 989 * 100 := by
    by_cases c : 0 ≤ hi.toInt - lo.toInt
    · exact Int.mul_le_mul (by omega) p2 p1 (by omega)
    · have : (hi.toInt - lo.toInt) * p.toInt ≤ 0 := Int.mul_nonpos_of_nonpos_of_nonneg (by omega) p1
      omega
  have b2 : -(989 * 100) ≤ (hi.toInt - lo.toInt) * p.toInt := by
    by_cases c : 0 ≤ hi.toInt - lo.toInt
    · have : 0 ≤ (hi.toInt - lo.toInt) * p.toInt := Int.mul_nonneg c p1
      omega
    · have h4 : (lo.toInt - hi.toInt) * p.toInt ≤ 989 * 100 := Int.mul_le_mul (by omega) p2 p1 (by omega)
      have h5 : (lo.toInt - hi.toInt) * p.toInt = -((hi.toInt - lo.toInt) * p.toInt) := by
        rw [← Int.neg_mul]
        congr 1
        omega
      omega
  have e2 : ((hi - lo) * p).toInt = (hi.toInt - lo.toInt) * p.toInt := by
    rw [i32_mul (by rw [e1]; omega) (by rw [e1]; omega), e1]
  have sg := tdiv_sg (x := (hi.toInt - lo.toInt) * p.toInt)
  have b3 : (0 ≤ hi.toInt - lo.toInt → 0 ≤ ((hi.toInt - lo.toInt) * p.toInt).tdiv 100 ∧ ((hi.toInt - lo.toInt) * p.toInt).tdiv 100 ≤ hi.toInt - lo.toInt) := by
    intro c
    refine ⟨sg.1 (Int.mul_nonneg c p1), (tdiv100 (hi.toInt - lo.toInt) ?_ ?_).2⟩
    · have : 0 ≤ (hi.toInt - lo.toInt) * p.toInt := Int.mul_nonneg c p1
      omega
    · exact Int.mul_le_mul_of_nonneg_left p2 c
  have b4 : (hi.toInt - lo.toInt ≤ 0 → ((hi.toInt - lo.toInt) * p.toInt).tdiv 100 ≤ 0 ∧ hi.toInt - lo.toInt ≤ ((hi.toInt - lo.toInt) * p.toInt).tdiv 100) := by
    intro c
    have h5 : (lo.toInt - hi.toInt) * p.toInt = -((hi.toInt - lo.toInt) * p.toInt) := by
      rw [← Int.neg_mul]
      congr 1
      omega
    have h6 : (lo.toInt - hi.toInt) * p.toInt ≤ (lo.toInt - hi.toInt) * 100 := Int.mul_le_mul_of_nonneg_left p2 (by omega)
    have h7 : 0 ≤ (lo.toInt - hi.toInt) * p.toInt := Int.mul_nonneg (by omega) p1
    have h8 := tdiv100 (x := (hi.toInt - lo.toInt) * p.toInt) (lo.toInt - hi.toInt) (by omega) (by omega)
    exact ⟨sg.2 (by omega), by omega⟩
  have e3 : ((hi - lo) * p / 100).toInt = ((hi.toInt - lo.toInt) * p.toInt).tdiv 100 := by
    rw [Int32.toInt_div, e2]
    have := tdiv100 (x := (hi.toInt - lo.toInt) * p.toInt) 989 (by omega) (by omega)
    exact Int.bmod_eq_of_le (by simp only [Int32.reduceToInt]; omega) (by simp only [Int32.reduceToInt]; omega)
  unfold BI capS
  rw [i32_add (by rw [e3]; omega) (by rw [e3]; omega), e3]
  omega
theorem add_BI {a b : Int32} {l1 h1 l2 h2 : Int} (ha : BI a l1 h1) (hb : BI b l2 h2) (c1 : -2147483648 ≤ l1 + l2) (c2 : h1 + h2 < 2147483648) : BI (a + b) (l1 + l2) (h1 + h2) := by
  unfold BI at *
  rw [i32_add (by omega) (by omega)]
  omega
def sgS (lo hi pl t a : Int32) : Int32 := tun a (capS lo hi pl + t)
def osS (lo hi pl u p b : Int32) : Int32 := tun b (padS p (capS lo hi pl + u))
def erS (ov sg os m : Int32) : Int32 := if ov = 1 then os - sg - m else sg - os - m
/-- bounds of a row of parts -/
def BR (t u p a b : Int32) : Prop := BI t 0 99 ∧ BI u 0 99 ∧ BI p 1 9999 ∧ BI a 1 9999 ∧ BI b 1 9999
theorem BI_up {a : Int32} {l h l' h' : Int} (x : BI a l h) (h1 : l' ≤ l) (h2 : h ≤ h') : BI a l' h' := by
  unfold BI at *
  omega
theorem sg_M {pl t a : Int32} (hN : 100 ≤ N) (hB : BT M) (hp : BI pl 0 100) (ht : BI t 0 99) (ha : BI a 1 9999) : fM_signalAt N M pl t a = some (sgS (M.1 5) (M.1 6) pl t a) := by
  have hc := cap_ok hB.1 hB.2.1 hp
  have h1 := (tun_ok hN ha (BI_up (add_BI hc ht (by decide) (by decide)) (by decide) (by decide))).2.1
  unfold capS at h1
  simp only [fM_signalAt, fM_gangAt, bd1, h1, sgS, capS]
theorem os_M {pl u p b : Int32} (hN : 100 ≤ N) (hB : BT M) (hp : BI pl 0 100) (hu : BI u 0 99) (hP : BI p 1 9999) (hb : BI b 1 9999) : fM_oscillatorAt N M pl u p b = some (osS (M.1 5) (M.1 6) pl u p b) := by
  have hc := cap_ok hB.1 hB.2.1 hp
  have hg : BI (capS (M.1 5) (M.1 6) pl + u) 0 9999 := BI_up (add_BI hc hu (by decide) (by decide)) (by decide) (by decide)
  have hq := (pad_ok (N := N) hP hg).2.1
  have h1 := (tun_ok hN hb hq).2.1
  have h2 := padM hP hg
  unfold osS
  unfold padS at h1 hq ⊢
  unfold capS at h1 h2 hq ⊢
  simp only [fM_oscillatorAt, fM_gangAt, bd1]
  unfold nzl
  rw [if_neg h2.2, h2.1]
  by_cases c : 1 ≤ p * (M.1 5 + (M.1 6 - M.1 5) * pl / 100 + u) / (p + (M.1 5 + (M.1 6 - M.1 5) * pl / 100 + u))
  · rw [if_pos c]
    rw [if_pos c] at h1
    rw [if_pos c, h1]
  · rw [if_neg c]
    rw [if_neg c] at h1
    rw [if_neg c, h1]
theorem er_M {pl t u p a b m : Int32} (hN : 100 ≤ N) (hB : BT M) (hp : BI pl 0 100) (hr : BR t u p a b) : fM_errorAt N M pl t u p a b m = some (erS (M.1 2) (sgS (M.1 5) (M.1 6) pl t a) (osS (M.1 5) (M.1 6) pl u p b) m) := by
  obtain ⟨h1, h2, h3, h4, h5⟩ := hr
  simp only [fM_errorAt, sg_M hN hB hp h1 h4, os_M hN hB hp h2 h3 h5, bd1, fM_errorBy, erS]
  by_cases c : M.1 2 = 1
  · rw [if_pos c, if_pos c]
  · rw [if_neg c, if_neg c]
theorem cap_X (hR : RT X M) (pl : Int32) : fX5_capacityAt N X pl = some (capS (M.1 5) (M.1 6) pl) := by
  simp only [fX5_capacityAt, hR.1, hR.2.1, capS]
theorem isOver_X (hR : RD X M) : fX1_isOver N X = some (if M.1 2 = 1 then 1 else 0) := by
  have e : X.2 2 (1 : Int32).toNatClampNeg = M.1 2 := hR.2.2.2.2.1
  unfold fX1_isOver
  rw [e]
  by_cases c : M.1 2 = 1
  · rw [if_pos c, if_pos c]
  · rw [if_neg c, if_neg c]
theorem er_X {g : Option Nat} {pl t u p a b m : Int32} (hN : 100 ≤ N) (hRD : RD X M) (hRT : RT X M) (hB : BT M) (hp : BI pl 0 100) (hr : BR t u p a b) (hg : gOk g X) (e0 : X.2 (gAi g) 0 = t) (e1 : X.2 (gAi g) 1 = u) (e2 : X.2 (gAi g) 2 = p) (e3 : X.2 (gAi g) 3 = a) (e4 : X.2 (gAi g) 4 = b) (e5 : X.2 (gAi g) 5 = m) : fX5_errorAt N g X pl = some (erS (M.1 2) (sgS (M.1 5) (M.1 6) pl t a) (osS (M.1 5) (M.1 6) pl u p b) m) := by
  obtain ⟨h1, h2, h3, h4, h5⟩ := hr
  have hc := cap_ok hB.1 hB.2.1 hp
  have hg1 : BI (capS (M.1 5) (M.1 6) pl + u) 0 9999 := BI_up (add_BI hc h2 (by decide) (by decide)) (by decide) (by decide)
  have t1 := (tun_ok hN h4 (BI_up (add_BI hc h1 (by decide) (by decide)) (by decide) (by decide))).1
  have hq := pad_ok (N := N) h3 hg1
  have t2 := (tun_ok hN h5 hq.2.1).1
  have gg0 : ∀ x : Option Int32, gg g X x = x := fun x => by
    cases g with
    | none => rfl
    | some k =>
      show gk k X x = x
      unfold gk
      exact if_pos (hg k rfl)
  have z0 : X.2 (gAi g) (0 : Int32).toNatClampNeg = t := e0
  have z1 : X.2 (gAi g) (1 : Int32).toNatClampNeg = u := e1
  have z2 : X.2 (gAi g) (2 : Int32).toNatClampNeg = p := e2
  have z3 : X.2 (gAi g) (3 : Int32).toNatClampNeg = a := e3
  have z4 : X.2 (gAi g) (4 : Int32).toNatClampNeg = b := e4
  have z5 : X.2 (gAi g) (5 : Int32).toNatClampNeg = m := e5
  rw [fX5_errorAt, gg0, cap_X hRT]
  simp only [bd1, z0, z1, z2, z3, z4, z5, t1, hq.1, t2, isOver_X hRD, erS, sgS, osS]
  by_cases c : M.1 2 = 1
  · simp [c]
  · simp [c]
end
