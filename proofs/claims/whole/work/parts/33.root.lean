/-! the two roots are one; the two paddings are one -/
section
theorem pf_lI {a : Nat} (h : a < 2 ^ 63) : (lN a).toInt = (a : Int) := lg_ofNat_toInt h
theorem pf_shr {a d : Nat} {D : Int64} (hD : (D.toBitVec.smod 64).toNat = d) (h : a < 2 ^ 62) : lN a >>> D = lN (a / 2 ^ d) := by
  have hd : a / 2 ^ d ≤ a := Nat.div_le_self _ _
  apply Int64.toInt_inj.mp
  have e : (lN a >>> D).toInt = (lN a).toInt >>> d := by
    rw [← hD]
    exact BitVec.toInt_sshiftRight ..
  rw [e, Int.shiftRight_eq_div_pow, pf_lI (by omega), pf_lI (by omega)]
  rfl
theorem BIn {x : Int32} {lo hi : Int} (h : BI x lo hi) (h0 : 0 ≤ lo) : ∃ n : Nat, x = nI n ∧ lo ≤ (n : Int) ∧ (n : Int) ≤ hi := by
  obtain ⟨h1, h2⟩ := h
  refine ⟨x.toNatClampNeg, ?_, ?_, ?_⟩
  · apply i32_ext
    have := i32_hi x
    have e := tnI (x := x) (by omega)
    rw [nI_toInt (by omega), e]
  · rw [tnI (by omega)]; exact h1
  · rw [tnI (by omega)]; exact h2
theorem BI_nI {n : Nat} {lo hi : Int} (h : n < 2147483648) (h1 : lo ≤ (n : Int)) (h2 : (n : Int) ≤ hi) : BI (nI n) lo hi := by
  unfold BI
  rw [nI_toInt (by omega)]
  exact ⟨h1, h2⟩
theorem rootX {N v : Nat} (hv : v < 30000000000) : ∀ (k a n : Nat), k < 18 → k + 2 ≤ n → a * a ≤ v → v < (a + 2 ^ (k + 1)) * (a + 2 ^ (k + 1)) → a < 262144 → ∃ r : Nat, fX5_tunedTo_L31 N (lN v) n (lN a) (lN (2 ^ k)) = some (nI r) ∧ r * r ≤ v ∧ v < (r + 1) * (r + 1) := by
  intro k
  induction k with
  | zero =>
    intro a n _ hn h1 h2 ha
    obtain ⟨m, rfl⟩ : ∃ m, n = m + 2 := ⟨n - 2, by omega⟩
    rw [fX5_tunedTo_L31.eq_2]
    have c1 : ¬ lg_cmp (lN (2 ^ 0)) 0 ≤ 0 := fun z => by
      have := (lg_cmp_le _ _).mp z
      exact absurd this (by decide)
    rw [if_neg c1]
    have e2 : lN (2 ^ 0) >>> ((1 : Int32).toInt64 &&& 63) = lN 0 := pf_shr (a := 1) (d := 1) (by decide) (by decide)
    rw [lN_add, lN_mul, e2]
    have hb : (a + 2 ^ 0) * (a + 2 ^ 0) < 2 ^ 63 := by
      have : (a + 2 ^ 0) * (a + 2 ^ 0) ≤ 262144 * 262144 := Nat.mul_le_mul (by omega) (by omega)
      omega
    have c0 : lg_cmp (lN 0) 0 ≤ 0 := (lg_cmp_le _ _).mpr (by decide)
    by_cases c : v < (a + 2 ^ 0) * (a + 2 ^ 0)
    · rw [if_pos ((lg_cmp_gt _ _).mpr ((pk_lLT (by omega) hb).mpr c)), fX5_tunedTo_L31.eq_2, if_pos c0]
      exact ⟨a, by rw [lN_i], h1, c⟩
    · rw [if_neg (fun z => c ((pk_lLT (by omega) hb).mp ((lg_cmp_gt _ _).mp z))), fX5_tunedTo_L31.eq_2, if_pos c0]
      refine ⟨a + 2 ^ 0, by rw [lN_i], by omega, ?_⟩
      have e : a + 2 ^ (0 + 1) = a + 2 ^ 0 + 1 := by omega
      rw [e] at h2
      exact h2
  | succ k ih =>
    intro a n hk hn h1 h2 ha
    obtain ⟨m, rfl⟩ : ∃ m, n = m + 1 := ⟨n - 1, by omega⟩
    rw [fX5_tunedTo_L31.eq_2]
    have hp : 2 ^ (k + 1) ≤ 2 ^ 17 := Nat.pow_le_pow_right (by decide) (by omega)
    have hp0 : 0 < 2 ^ (k + 1) := Nat.pow_pos (by decide)
    have c1 : ¬ lg_cmp (lN (2 ^ (k + 1))) 0 ≤ 0 := fun z => by
      have h3 := (lg_cmp_le _ _).mp z
      have h4 : (2 ^ (k + 1) : Nat) ≤ 0 := (pk_lLE (a := 2 ^ (k + 1)) (b := 0) (by omega) (by decide)).mp h3
      omega
    rw [if_neg c1]
    have e2 : lN (2 ^ (k + 1)) >>> ((1 : Int32).toInt64 &&& 63) = lN (2 ^ k) := by
      rw [pf_shr (d := 1) (by decide) (by omega)]
      congr 1
      rw [Nat.pow_succ]
      omega
    rw [lN_add, lN_mul, e2]
    have hb : (a + 2 ^ (k + 1)) * (a + 2 ^ (k + 1)) < 2 ^ 63 := by
      have : (a + 2 ^ (k + 1)) * (a + 2 ^ (k + 1)) ≤ 524288 * 524288 := Nat.mul_le_mul (by omega) (by omega)
      omega
    have e3 : 2 ^ (k + 1 + 1) = 2 ^ (k + 1) + 2 ^ (k + 1) := by rw [Nat.pow_succ]; omega
    by_cases c : v < (a + 2 ^ (k + 1)) * (a + 2 ^ (k + 1))
    · rw [if_pos ((lg_cmp_gt _ _).mpr ((pk_lLT (by omega) hb).mpr c))]
      exact ih a m (by omega) (by omega) h1 c ha
    · rw [if_neg (fun z => c ((pk_lLT (by omega) hb).mp ((lg_cmp_gt _ _).mp z)))]
      refine ih (a + 2 ^ (k + 1)) m (by omega) (by omega) (by omega) ?_ ?_
      · rw [e3, ← Nat.add_assoc] at h2
        exact h2
      · by_cases c4 : a + 2 ^ (k + 1) < 262144
        · exact c4
        · have : 262144 * 262144 ≤ (a + 2 ^ (k + 1)) * (a + 2 ^ (k + 1)) := Nat.mul_le_mul (by omega) (by omega)
          omega
theorem rootM {N v : Nat} (hv : v < 30000000000) : ∀ (n lo hi : Nat), lo ≤ hi → hi ≤ 200000 → hi - lo < 2 ^ n → lo * lo ≤ v → v < (hi + 1) * (hi + 1) → ∃ r : Nat, fM_root_L7 N (lN v) (n + 1) (lN lo) (lN hi) = some (nI r) ∧ r * r ≤ v ∧ v < (r + 1) * (r + 1) := by
  intro n
  induction n with
  | zero =>
    intro lo hi h1 h2 h3 h4 h5
    have e : lo = hi := by omega
    subst e
    rw [fM_root_L7.eq_2, if_pos ((lg_cmp_ge _ _).mpr ((pk_lLE (by omega) (by omega)).mpr (Nat.le_refl _)))]
    exact ⟨lo, by rw [lN_i], h4, h5⟩
  | succ n ih =>
    intro lo hi h1 h2 h3 h4 h5
    rw [fM_root_L7.eq_2]
    by_cases c0 : hi ≤ lo
    · have e : lo = hi := by omega
      subst e
      rw [if_pos ((lg_cmp_ge _ _).mpr ((pk_lLE (by omega) (by omega)).mpr (Nat.le_refl _)))]
      exact ⟨lo, by rw [lN_i], h4, h5⟩
    · rw [if_neg (fun z => c0 ((pk_lLE (by omega) (by omega)).mp ((lg_cmp_ge _ _).mp z)))]
      have e1 : (lN lo + lN hi + 1) / 2 = lN ((lo + hi + 1) / 2) := by
        rw [lN_add, lN_1]
        exact pk_lDiv (b := 2) (by omega) (by decide) (by decide)
      rw [e1, lN_mul]
      generalize hk : (lo + hi + 1) / 2 = k
      have hb : k * k < 2 ^ 63 := by
        have : k * k ≤ 200001 * 200001 := Nat.mul_le_mul (by omega) (by omega)
        omega
      have hp : 2 ^ (n + 1) = 2 ^ n + 2 ^ n := by rw [Nat.pow_succ]; omega
      by_cases c : v < k * k
      · rw [if_pos ((lg_cmp_gt _ _).mpr ((pk_lLT (by omega) hb).mpr c))]
        have e2 : lN k - 1 = lN (k - 1) := lN_sub (b := 1) (by omega)
        rw [e2]
        refine ih lo (k - 1) (by omega) (by omega) (by omega) h4 ?_
        rw [show k - 1 + 1 = k by omega]
        exact c
      · rw [if_neg (fun z => c ((pk_lLT (by omega) hb).mp ((lg_cmp_gt _ _).mp z)))]
        exact ih k hi (by omega) h2 (by omega) (by omega) h5
theorem root_one {v r s : Nat} (h1 : r * r ≤ v) (h2 : v < (r + 1) * (r + 1)) (h3 : s * s ≤ v) (h4 : v < (s + 1) * (s + 1)) : r = s := by
  rcases Nat.lt_trichotomy r s with h | h | h
  · have : (r + 1) * (r + 1) ≤ s * s := Nat.mul_le_mul h h
    omega
  · exact h
  · have : (s + 1) * (s + 1) ≤ r * r := Nat.mul_le_mul h h
    omega
theorem tuned_ex {L C : Int32} (hL : BI L 1 9999) (hC : BI C 1 9999) : ∃ r : Nat, r < 160000 ∧ (∀ N, 100 ≤ N → fX5_tunedTo N L C = some (nI r)) ∧ (∀ N, 100 ≤ N → fM_tunedTo N L C = some (nI r)) := by
  obtain ⟨a, rfl, a1, a2⟩ := BIn hL (by decide)
  obtain ⟨c, rfl, c1, c2⟩ := BIn hC (by decide)
  have hp1 : 1 ≤ a * c := Nat.mul_pos (by omega) (by omega)
  have hp2 : a * c ≤ 9999 * 9999 := Nat.mul_le_mul (by omega) (by omega)
  have ep : (nI a).toInt64 * (nI c).toInt64 = lN (a * c) := by rw [nI_l (by omega), nI_l (by omega), lN_mul]
  have ed : (25330296000 : Int64) / lN (a * c) = lN (25330296000 / (a * c)) := pk_lDiv (a := 25330296000) (by decide) (by omega) (by omega)
  have hz : ¬ lN (a * c) = 0 := fun z => by
    have := (pk_lEQ (a := a * c) (b := 0) (by omega) (by decide)).mp z
    omega
  have hge : 0 ≤ lg_cmp (lN (a * c)) 1 := (lg_cmp_ge _ _).mpr ((pk_lLE (a := 1) (b := a * c) (by decide) (by omega)).mpr hp1)
  have hq : 25330296000 / (a * c) ≤ 25330296000 := Nat.div_le_self _ _
  generalize hv : 25330296000 / (a * c) = v at *
  have key : ∀ N, 100 ≤ N → ∃ r : Nat, fX5_tunedTo_L31 N (lN v) N (lN 0) (lN (2 ^ 17)) = some (nI r) ∧ r * r ≤ v ∧ v < (r + 1) * (r + 1) := fun N hN => rootX (by omega) 17 0 N (by decide) (by omega) (by omega) (by show v < (0 + 2 ^ 18) * (0 + 2 ^ 18); omega) (by decide)
  have key2 : ∀ N, 100 ≤ N → ∃ r : Nat, fM_root_L7 N (lN v) N (lN 0) (lN 200000) = some (nI r) ∧ r * r ≤ v ∧ v < (r + 1) * (r + 1) := fun N hN => by
    obtain ⟨n, rfl⟩ : ∃ n, N = n + 1 := ⟨N - 1, by omega⟩
    exact rootM (by omega) n 0 200000 (by decide) (by decide) (by
      have : 2 ^ 18 ≤ 2 ^ n := Nat.pow_le_pow_right (by decide) (by omega)
      omega) (by omega) (by omega)
  obtain ⟨r, -, r2, r3⟩ := key 100 (by decide)
  refine ⟨r, ?_, fun N hN => ?_, fun N hN => ?_⟩
  · by_cases h : r < 160000
    · exact h
    · have : 160000 * 160000 ≤ r * r := Nat.mul_le_mul (by omega) (by omega)
      omega
  · obtain ⟨s, s1, s2, s3⟩ := key N hN
    rw [root_one r2 r3 s2 s3, fX5_tunedTo, ep, if_pos hge]
    unfold nzl
    rw [if_neg hz, ed]
    exact s1
  · obtain ⟨s, s1, s2, s3⟩ := key2 N hN
    rw [root_one r2 r3 s2 s3, fM_tunedTo, ep]
    unfold nzl
    rw [if_neg hz, ed, fM_root]
    have e : fM_root_L7 N (lN v) N 0 200000 = some (nI s) := s1
    rw [e]
    rfl
theorem tun_ok {N : Nat} {L C : Int32} (hN : 100 ≤ N) (hL : BI L 1 9999) (hC : BI C 1 9999) : fX5_tunedTo N L C = some (tun L C) ∧ fM_tunedTo N L C = some (tun L C) ∧ BI (tun L C) 0 160000 := by
  obtain ⟨r, h1, h2, h3⟩ := tuned_ex hL hC
  have e : tun L C = nI r := by
    unfold tun
    rw [h2 5000 (by decide)]
    rfl
  rw [e]
  exact ⟨h2 N hN, h3 N hN, BI_nI (by omega) (by omega) (by omega)⟩
/-- the padded capacity -/
def padS (P g : Int32) : Int32 := if 1 ≤ P * g / (P + g) then P * g / (P + g) else 1
theorem pad_ok {N : Nat} {P g : Int32} (hP : BI P 1 9999) (hg : BI g 0 9999) : fX5_padded N P g = some (padS P g) ∧ BI (padS P g) 1 9999 ∧ (padS P g).toInt ≤ (if g.toInt < 1 then 1 else g.toInt) := by
  obtain ⟨a, rfl, a1, a2⟩ := BIn hP (by decide)
  obtain ⟨c, rfl, c1, c2⟩ := BIn hg (by decide)
  have hp2 : a * c ≤ 9999 * 9999 := Nat.mul_le_mul (by omega) (by omega)
  have e1 : nI a + nI c = nI (a + c) := nI_add a c
  have e2 : nI a * nI c = nI (a * c) := pk_mul a c
  have e3 : nI (a * c) / nI (a + c) = nI (a * c / (a + c)) := pk_div (by omega) (by omega) (by omega)
  have hd : a * c / (a + c) ≤ c := by
    apply Nat.div_le_of_le_mul
    exact Nat.mul_le_mul_right c (by omega)
  have hc1 : (1 : Int32) ≤ nI (a + c) := (nI_leI (a := 1) (b := a + c) (by decide) (by omega)).mpr (by omega)
  unfold padS fX5_padded
  rw [e1, e2, e3, if_pos hc1, nz_ok (by rw [nI_toInt (by omega)]; omega)]
  by_cases c4 : 1 ≤ a * c / (a + c)
  · have c5 : (1 : Int32) ≤ nI (a * c / (a + c)) := (nI_leI (a := 1) (by decide) (by omega)).mpr c4
    rw [if_pos c5, if_pos c5]
    refine ⟨rfl, BI_nI (by omega) (by omega) (by omega), ?_⟩
    rw [nI_toInt (by omega), nI_toInt (by omega)]
    split <;> omega
  · have c5 : ¬ (1 : Int32) ≤ nI (a * c / (a + c)) := fun z => c4 ((nI_leI (a := 1) (by decide) (by omega)).mp z)
    rw [if_neg c5, if_neg c5]
    refine ⟨rfl, by unfold BI; decide, ?_⟩
    rw [nI_toInt (by omega)]
    simp only [Int32.reduceToInt]
    split <;> omega
/-- the same, as the reference has it -/
theorem padM {P g : Int32} (hP : BI P 1 9999) (hg : BI g 0 9999) : (P.toInt64 * g.toInt64 / (P + g).toInt64).toInt32 = P * g / (P + g) ∧ ¬ (P + g).toInt64 = 0 := by
  obtain ⟨a, rfl, a1, a2⟩ := BIn hP (by decide)
  obtain ⟨c, rfl, c1, c2⟩ := BIn hg (by decide)
  have hp2 : a * c ≤ 9999 * 9999 := Nat.mul_le_mul (by omega) (by omega)
  have hd : a * c / (a + c) ≤ a * c := Nat.div_le_self _ _
  rw [nI_add, nI_l (by omega), nI_l (by omega), nI_l (by omega), lN_mul, pk_lDiv (by omega) (by omega) (by omega), lN_i, pk_mul, pk_div (by omega) (by omega) (by omega)]
  refine ⟨rfl, fun z => ?_⟩
  have := (pk_lEQ (a := a + c) (b := 0) (by omega) (by decide)).mp z
  omega
end
