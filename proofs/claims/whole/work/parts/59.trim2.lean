/-! trimming -/
section
variable {N : Nat} {X M σ : St}
def eN (M : St) (p u : Int32) (k : Nat) : Nat := (jabs (erP M (M.2 2 0) u p (M.2 2 3) (M.2 2 4) (M.1 1) k)).toNatClampNeg
theorem aw {M : St} {p u : Int32} {k np : Nat} (hBD : BD M) (hB : BT M) (hnp : M.1 7 = nI np) (h5 : np ≤ 5) (hk : k < np) (hp : BI p 1 9999) (hu : BI u 0 99) : jabs (erP M (M.2 2 0) u p (M.2 2 3) (M.2 2 4) (M.1 1) k) = nI (eN M p u k) ∧ eN M p u k ≤ 161000 ∧ jabs (osS (M.1 5) (M.1 6) (M.2 3 k) u p (M.2 2 4) - (sgS (M.1 5) (M.1 6) (M.2 3 k) (M.2 2 0) (M.2 2 3) + abS M)) = nI (eN M p u k) := by
  have hpl : BI (M.2 3 k) 0 100 := hB.2.2.2.1 k (by rw [hnp, nI_toInt (by omega)]; omega)
  have hc := cap_ok hB.1 hB.2.1 hpl
  have hr := BR_own hB
  have s1 : BI (sgS (M.1 5) (M.1 6) (M.2 3 k) (M.2 2 0) (M.2 2 3)) 0 160000 := (tun_ok (N := 100) (by decide) hr.2.2.2.1 (BI_up (add_BI hc hr.1 (by decide) (by decide)) (by decide) (by decide))).2.2
  have hg : BI (capS (M.1 5) (M.1 6) (M.2 3 k) + u) 10 1098 := add_BI hc hu (by decide) (by decide)
  have hpad := (pad_ok (N := 0) hp (BI_up hg (by decide) (by decide))).2.1
  have o1 : BI (osS (M.1 5) (M.1 6) (M.2 3 k) u p (M.2 2 4)) 0 160000 := (tun_ok (N := 100) (by decide) hr.2.2.2.2 hpad).2.2
  have m1 := ib hBD.2.2.1
  have key : ∀ (s o m : Int32), BI s 0 160000 → BI o 0 160000 → 20 ≤ m.toInt ∧ m.toInt ≤ 900 → BI (jabs (erS (M.1 2) s o m)) 0 161000 ∧ jabs (o - (s + (if M.1 2 = 1 then m else -m))) = jabs (erS (M.1 2) s o m) := by
    intro s o m hs ho hm
    obtain ⟨a1, a2⟩ := hs
    obtain ⟨a3, a4⟩ := ho
    obtain ⟨a5, a6⟩ := hm
    unfold erS
    by_cases c : M.1 2 = 1
    · rw [if_pos c, if_pos c]
      have t1 : (o - s).toInt = o.toInt - s.toInt := i32_sub (by omega) (by omega)
      have t2 : (o - s - m).toInt = o.toInt - s.toInt - m.toInt := by rw [i32_sub (by omega) (by omega), t1]
      have t3 : (s + m).toInt = s.toInt + m.toInt := i32_add (by omega) (by omega)
      have t4 : (o - (s + m)).toInt = o.toInt - (s.toInt + m.toInt) := by rw [i32_sub (by omega) (by omega), t3]
      have t5 := jabs_I (o - s - m) (by omega)
      refine ⟨?_, ?_⟩
      · unfold BI
        rw [t5]
        split <;> omega
      · congr 1
        apply i32_ext
        omega
    · rw [if_neg c, if_neg c]
      have t0 : (-m).toInt = -m.toInt := i32_neg (by omega)
      have t1 : (s - o).toInt = s.toInt - o.toInt := i32_sub (by omega) (by omega)
      have t2 : (s - o - m).toInt = s.toInt - o.toInt - m.toInt := by rw [i32_sub (by omega) (by omega), t1]
      have t3 : (s + -m).toInt = s.toInt - m.toInt := by rw [i32_add (by omega) (by omega), t0]; omega
      have t4 : (o - (s + -m)).toInt = o.toInt - (s.toInt - m.toInt) := by rw [i32_sub (by omega) (by omega), t3]
      have t5 := jabs_I (s - o - m) (by omega)
      have t6 := jabs_I (o - (s + -m)) (by omega)
      refine ⟨?_, ?_⟩
      · unfold BI
        rw [t5]
        split <;> omega
      · apply i32_ext
        rw [t5, t6, t2, t4]
        split <;> split <;> omega
  obtain ⟨k1, k2⟩ := key _ _ _ s1 o1 m1
  have k1' : BI (jabs (erP M (M.2 2 0) u p (M.2 2 3) (M.2 2 4) (M.1 1) k)) 0 161000 := k1
  obtain ⟨n, n1, n2, n3⟩ := BIn k1' (by omega)
  have en : eN M p u k = n := by
    unfold eN
    rw [n1, tn_nI (by omega)]
  refine ⟨by rw [en]; exact n1, by omega, ?_⟩
  rw [en]
  exact k2.trans n1
def wN (e : Nat → Nat) : Nat → Nat
  | 0 => 0
  | k + 1 => max (wN e k) (e k)
def sN (e : Nat → Nat) : Nat → Nat
  | 0 => 0
  | k + 1 => sN e k + e k
theorem wN_B {e : Nat → Nat} {b np : Nat} (h : ∀ k : Nat, k < np → e k ≤ b) : ∀ k : Nat, k ≤ np → wN e k ≤ b ∧ sN e k ≤ k * b := by
  intro k
  induction k with
  | zero => intro _; exact ⟨Nat.zero_le _, Nat.zero_le _⟩
  | succ k ih =>
    intro hk
    obtain ⟨i1, i2⟩ := ih (by omega)
    have := h k (by omega)
    refine ⟨?_, ?_⟩
    · show max _ _ ≤ b
      omega
    · show sN e k + e k ≤ (k + 1) * b
      rw [Nat.add_mul]
      omega
theorem t74 {p u : Int32} {np : Nat} (w2 w3 w4 w5 : Int32) (hN : 100 ≤ N) (hBD : BD M) (hB : BT M) (hnp : M.1 7 = nI np) (h5 : np ≤ 5) (hp : BI p 1 9999) (hu : BI u 0 99) : ∀ (d k n : Nat), k + d = np → d < n → fM_trimmed_L74 N M w2 w3 w4 w5 p u n (nI (wN (eN M p u) k)) (nI (sN (eN M p u) k)) (nI k) = some (nI (wN (eN M p u) np), nI (sN (eN M p u) np)) := by
  intro d
  induction d with
  | zero =>
    intro k n hk hn
    obtain ⟨n, rfl⟩ : ∃ z, n = z + 1 := ⟨n - 1, by omega⟩
    have hk : k = np := by omega
    subst hk
    rw [fM_trimmed_L74.eq_2, hnp, if_pos (nI_le (by omega) (by omega))]
  | succ d ih =>
    intro k n hk hn
    obtain ⟨n, rfl⟩ : ∃ z, n = z + 1 := ⟨n - 1, by omega⟩
    have hpl : BI (M.2 3 k) 0 100 := hB.2.2.2.1 k (by rw [hnp, nI_toInt (by omega)]; omega)
    have hr := BR_own hB
    have hr' : BR (M.2 2 0) u p (M.2 2 3) (M.2 2 4) := ⟨hr.1, hu, hp, hr.2.2.2.1, hr.2.2.2.2⟩
    obtain ⟨a1, a2, a3⟩ := aw hBD hB hnp h5 (show k < np by omega) hp hu
    obtain ⟨b1, b2⟩ := wN_B (e := eN M p u) (fun k hk => (aw hBD hB hnp h5 hk hp hu).2.1) k (by omega)
    have e' : fM_errorAt N M (M.2 3 k) (M.2 2 (0 : Int32).toNatClampNeg) u p (M.2 2 (3 : Int32).toNatClampNeg) (M.2 2 (4 : Int32).toNatClampNeg) (M.1 1) = some (erP M (M.2 2 0) u p (M.2 2 3) (M.2 2 4) (M.1 1) k) := er_M hN hB hpl hr'
    have st := ih (k + 1) n (by omega) (by omega)
    rw [wN, sN] at st
    rw [fM_trimmed_L74.eq_2, hnp, if_neg (nI_ge (by omega) (by omega)), gi_ok (by rw [nI_toInt (by omega)]; omega) (by rw [nI_toInt (by omega)]; omega), tn_nI (by omega), e']
    simp only [bd1, size_eq]
    rw [a1, nI_add, nI_1]
    by_cases c : eN M p u k ≤ wN (eN M p u) k
    · rw [if_pos (nI_le c (by omega))]
      rw [Nat.max_eq_left c] at st
      exact st
    · rw [if_neg (nI_ge (by omega) (by omega))]
      rw [Nat.max_eq_right (by omega)] at st
      exact st
theorem rk_shl (a : Nat) : lN a <<< ((32 : Int32).toInt64 &&& 63) = lN (a * 4294967296) := by
  apply Int64.toBitVec_inj.1
  show (BitVec.ofNat 64 a) <<< (((32 : Int32).toInt64 &&& 63).toBitVec.smod 64) = BitVec.ofNat 64 (a * 4294967296)
  have e : ((32 : Int32).toInt64 &&& 63).toBitVec.smod 64 = 32#64 := by decide
  rw [e]
  apply BitVec.eq_of_toNat_eq
  simp [BitVec.toNat_shiftLeft, Nat.shiftLeft_eq]
theorem rk_L {p u : Int32} {np : Nat} (hN : 100 ≤ N) (hBD : BD M) (hB : BT M) (hnp : M.1 7 = nI np) (h5 : np ≤ 5) (hp : BI p 1 9999) (hu : BI u 0 99) (hP : PR σ M np) : ∀ (d k n : Nat), k + d = np → d < n → fX5_rankOfTrim_L8 N σ p u n (nI (wN (eN M p u) k)) (nI (sN (eN M p u) k)) (nI k) = some (lN (wN (eN M p u) np * 4294967296 + sN (eN M p u) np)) := by
  intro d
  induction d with
  | zero =>
    intro k n hk hn
    obtain ⟨n, rfl⟩ : ∃ z, n = z + 1 := ⟨n - 1, by omega⟩
    have hk : k = np := by omega
    subst hk
    obtain ⟨b1, b2⟩ := wN_B (e := eN M p u) (fun k hk => (aw hBD hB hnp h5 hk hp hu).2.1) k (by omega)
    have b3 : sN (eN M p u) k ≤ 5 * 161000 := Nat.le_trans b2 (Nat.mul_le_mul_right _ h5)
    rw [fX5_rankOfTrim_L8.eq_2, hP.1, if_pos (nI_le (by omega) (by omega)), nI_l (by omega), nI_l (by omega), rk_shl, lN_add]
  | succ d ih =>
    intro k n hk hn
    obtain ⟨n, rfl⟩ : ∃ z, n = z + 1 := ⟨n - 1, by omega⟩
    have hpl : BI (M.2 3 k) 0 100 := hB.2.2.2.1 k (by rw [hnp, nI_toInt (by omega)]; omega)
    have hc := cap_ok hB.1 hB.2.1 hpl
    have hg : BI (capS (M.1 5) (M.1 6) (M.2 3 k) + u) 10 1098 := add_BI hc hu (by decide) (by decide)
    obtain ⟨q1, q2, q3⟩ := pad_ok (N := N) hp (BI_up hg (by decide) (by decide) : BI (capS (M.1 5) (M.1 6) (M.2 3 k) + u) 0 9999)
    obtain ⟨a1, a2, a3⟩ := aw hBD hB hnp h5 (show k < np by omega) hp hu
    obtain ⟨b1, b2⟩ := wN_B (e := eN M p u) (fun k hk => (aw hBD hB hnp h5 hk hp hu).2.1) k (by omega)
    obtain ⟨z1, z2⟩ := hP.2.1 k (by omega)
    have st := ih (k + 1) n (by omega) (by omega)
    rw [wN, sN] at st
    have hle : (padS p (capS (M.1 5) (M.1 6) (M.2 3 k) + u)).toInt ≤ 1098 := by
      have h1 := ib hg
      rw [if_neg (by omega)] at q3
      omega
    have q0 := ib q2
    obtain ⟨c, c1, c2, c3⟩ := BIn (show BI (padS p (capS (M.1 5) (M.1 6) (M.2 3 k) + u)) 1 1098 from ⟨q0.1, hle⟩) (by omega)
    have jm : jmin (nI c) 1098 = nI c := by
      unfold jmin
      exact if_neg (nI_nlt (a := 1098) (by omega) (by omega))
    have eo : osS (M.1 5) (M.1 6) (M.2 3 k) u p (M.2 2 4) = tun (M.2 2 4) (nI c) := by
      unfold osS
      rw [c1]
    rw [eo] at a3
    rw [fX5_rankOfTrim_L8.eq_2, hP.1, if_neg (nI_ge (by omega) (by omega)), gi_ok (by rw [nI_toInt (by omega)]; omega) (by rw [nI_toInt (by omega)]; omega), tn_nI (by omega), z1, z2, q1, c1]
    simp only [bd1]
    rw [jm, gi_ok (by rw [nI_toInt (by omega)]; omega) (by rw [nI_toInt (by omega)]; omega), gi_ok (by rw [nI_toInt (by omega)]; omega) (by rw [nI_toInt (by omega)]; omega), tn_nI (by omega), hP.2.2 c (by omega) (by omega), a3, jmax_n (by omega) (by omega), nI_add, nI_1]
    exact st
def rk (w s : Nat) : Int64 := lN (w * 4294967296 + s)
theorem rk_le {w s w' s' : Nat} (hw : w ≤ 161000) (hs : s ≤ 805000) (hw' : w' ≤ 161000) (hs' : s' ≤ 805000) : 0 ≤ lg_cmp (rk w s) (rk w' s') ↔ (w' < w ∨ (w' = w ∧ s' ≤ s)) := by
  unfold rk
  rw [lg_cmp_ge, pk_lLE (by omega) (by omega)]
  omega
theorem rk_X {p u : Int32} {np : Nat} (hN : 100 ≤ N) (hBD : BD M) (hB : BT M) (hnp : M.1 7 = nI np) (h5 : np ≤ 5) (bp : BI p 1 9999) (bu : BI u 0 99) (hP : PR σ M np) : fX5_rankOfTrim N σ p u = some (rk (wN (eN M p u) np) (sN (eN M p u) np)) := rk_L (N := N) hN hBD hB hnp h5 bp bu hP np 0 N (by omega) (by omega)
theorem t74_0 {p u : Int32} {np : Nat} (w2 w3 w4 w5 : Int32) (hN : 100 ≤ N) (hBD : BD M) (hB : BT M) (hnp : M.1 7 = nI np) (h5 : np ≤ 5) (bp : BI p 1 9999) (bu : BI u 0 99) : fM_trimmed_L74 N M w2 w3 w4 w5 p u N 0 0 0 = some (nI (wN (eN M p u) np), nI (sN (eN M p u) np)) := t74 (N := N) w2 w3 w4 w5 hN hBD hB hnp h5 bp bu np 0 N (by omega) (by omega)
theorem b100 (p u : Nat) : (100 : Int32) * nI p + nI u = nI (100 * p + u) := by
  show nI 100 * nI p + nI u = _
  rw [pk_mul, nI_add]
theorem s99 : st3 (1 : Int32).toNatClampNeg = nI 99 := by decide
theorem ws_B {p u : Int32} {np : Nat} (hBD : BD M) (hB : BT M) (hnp : M.1 7 = nI np) (h5 : np ≤ 5) (bp : BI p 1 9999) (bu : BI u 0 99) : wN (eN M p u) np ≤ 161000 ∧ sN (eN M p u) np ≤ 805000 := by
  obtain ⟨b1, b2⟩ := wN_B (e := eN M p u) (fun k hk => (aw hBD hB hnp h5 hk bp bu).2.1) np (by omega)
  exact ⟨b1, Nat.le_trans b2 (Nat.mul_le_mul_right 161000 h5)⟩
/-- where the two loops stand -/
def Tbb (x4 : Int64) (x6 m3 m4 m5 : Int32) : Prop := (x6 = -1 ∧ m3 = -1) ∨ (∃ z w s : Nat, z < 2147483648 ∧ w ≤ 161000 ∧ s ≤ 805000 ∧ x6 = nI z ∧ m3 = nI z ∧ m4 = nI w ∧ m5 = nI s ∧ x4 = rk w s)
theorem bd1_s {α β : Type} (a : α) (f : α → Option β) : bd1 (some a) f = f a := rfl
theorem bd2_s {α α' β : Type} (a : α) (a' : α') (f : α → α' → Option β) : bd2 (some (a, a')) f = f a a' := rfl
/-- one step of both -/
theorem t58_s {p u n z : Nat} {w2 v2 : Int32} {w s : Nat} {x4 R : Int64} {x6 m3 m4 m5 : Int32} (hu : u ≤ 99) (hz : z = 100 * p + u) (hz2 : z < 2147483648) (b1 : w ≤ 161000) (b3 : s ≤ 805000) (hR : R = rk w s) (hx : fX5_rankOfTrim N σ (nI p) (nI u) = some (R)) (hm : fM_trimmed_L74 N M w2 m3 m4 m5 (nI p) (nI u) N 0 0 0 = some (nI w, nI s)) (hT : Tbb x4 x6 m3 m4 m5) : ∃ (y4 : Int64) (y6 k3 k4 k5 : Int32), fX5_bestTrim_L75 N v2 (nI p) (n + 1) x4 x6 (nI u) σ = fX5_bestTrim_L75 N v2 (nI p) n y4 y6 (nI (u + 1)) σ ∧ fM_trimmed_L58 N M w2 (nI p) (n + 1) m3 m4 m5 (nI u) = fM_trimmed_L58 N M w2 (nI p) n k3 k4 k5 (nI (u + 1)) ∧ Tbb y4 y6 k3 k4 k5 := by
  have c1 : ¬ st3 (1 : Int32).toNatClampNeg < nI u := by
    rw [s99]
    exact nI_nlt (by omega) (by omega)
  have c2 : ¬ (100 : Int32) ≤ nI u := nI_ge (b := 100) (by omega) (by omega)
  have eX : fX5_bestTrim_L75 N v2 (nI p) (n + 1) x4 x6 (nI u) σ = if x6 = -1 then fX5_bestTrim_L75 N v2 (nI p) n (R) (nI z) (nI (u + 1)) σ else if 0 ≤ lg_cmp (R) x4 then fX5_bestTrim_L75 N v2 (nI p) n x4 x6 (nI (u + 1)) σ else fX5_bestTrim_L75 N v2 (nI p) n (R) (nI z) (nI (u + 1)) σ := by
    rw [fX5_bestTrim_L75.eq_2, if_neg c1, hx, nI_1, b100, ← hz, bd1_s]
  have eM : fM_trimmed_L58 N M w2 (nI p) (n + 1) m3 m4 m5 (nI u) = if m3 < 0 then fM_trimmed_L58 N M w2 (nI p) n (nI z) (nI w) (nI s) (nI (u + 1)) else if nI w < m4 then fM_trimmed_L58 N M w2 (nI p) n (nI z) (nI w) (nI s) (nI (u + 1)) else if nI w = m4 then (if m5 ≤ nI s then fM_trimmed_L58 N M w2 (nI p) n m3 m4 m5 (nI (u + 1)) else fM_trimmed_L58 N M w2 (nI p) n (nI z) (nI w) (nI s) (nI (u + 1))) else fM_trimmed_L58 N M w2 (nI p) n m3 m4 m5 (nI (u + 1)) := by
    rw [fM_trimmed_L58.eq_2, if_neg c2, hm, nI_1, b100, ← hz, bd2_s]
  have hnew : Tbb (R) (nI z) (nI z) (nI w) (nI s) := Or.inr ⟨z, w, s, hz2, b1, b3, rfl, rfl, rfl, rfl, hR⟩
  rw [eX, eM]
  rcases id hT with ⟨h2, h3⟩ | ⟨y, w', s', h1, h2, h3, h4, h5, h6, h7, h8⟩
  · refine ⟨R, nI z, nI z, nI w, nI s, ?_, ?_, hnew⟩
    · exact if_pos h2
    · have n3 : m3 < 0 := by
        rw [h3]
        decide
      exact if_pos n3
  · have iffx : 0 ≤ lg_cmp (R) x4 ↔ (w' < w ∨ (w' = w ∧ s' ≤ s)) := by
      rw [h8, hR]
      exact rk_le b1 b3 h2 h3
    have n6 : ¬ x6 = -1 := by
      rw [h4]
      exact nI_ne1 h1
    have m0 : ¬ m3 < 0 := by
      rw [h5]
      exact nI_pos (by omega)
    by_cases c3 : w < w'
    · refine ⟨R, nI z, nI z, nI w, nI s, ?_, ?_, hnew⟩
      · exact (if_neg n6).trans (if_neg (fun y => by have := iffx.mp y; omega))
      · rw [if_neg m0]
        exact if_pos (by rw [h6]; exact nI_lt c3 (by omega))
    · have m1 : ¬ nI w < m4 := by
        rw [h6]
        exact nI_nlt (by omega) (by omega)
      by_cases c4 : w = w'
      · have m2 : nI w = m4 := by rw [h6, c4]
        by_cases c5 : s' ≤ s
        · refine ⟨x4, x6, m3, m4, m5, ?_, ?_, hT⟩
          · exact (if_neg n6).trans (if_pos (iffx.mpr (by omega)))
          · rw [if_neg m0, if_neg m1, if_pos m2]
            exact if_pos (by rw [h7]; exact nI_le c5 (by omega))
        · refine ⟨R, nI z, nI z, nI w, nI s, ?_, ?_, hnew⟩
          · exact (if_neg n6).trans (if_neg (fun y => by have := iffx.mp y; omega))
          · rw [if_neg m0, if_neg m1, if_pos m2]
            exact if_neg (by rw [h7]; exact nI_ge (by omega) (by omega))
      · refine ⟨x4, x6, m3, m4, m5, ?_, ?_, hT⟩
        · exact (if_neg n6).trans (if_pos (iffx.mpr (by omega)))
        · rw [if_neg m0, if_neg m1]
          exact if_neg (by rw [h6]; exact fun y => c4 ((nI_eq (by omega) (by omega)).mp y))
theorem t58 {p np : Nat} {w2 v2 : Int32} (hN : 100 ≤ N) (hBD : BD M) (hB : BT M) (hnp : M.1 7 = nI np) (h5 : np ≤ 5) (hp1 : 1 ≤ p) (hp2 : p ≤ 9999) (hP : PR σ M np) : ∀ (d u n : Nat) (x4 : Int64) (x6 m3 m4 m5 : Int32), u + d = 100 → d < n → Tbb x4 x6 m3 m4 m5 → ∃ (x4' : Int64) (x6' m3' m4' m5' : Int32), fX5_bestTrim_L75 N v2 (nI p) n x4 x6 (nI u) σ = some (x4', x6', σ) ∧ fM_trimmed_L58 N M w2 (nI p) n m3 m4 m5 (nI u) = some (m3', m4', m5') ∧ Tbb x4' x6' m3' m4' m5' := by
  intro d
  induction d with
  | zero =>
    intro u n x4 x6 m3 m4 m5 hu hn hT
    obtain ⟨n, rfl⟩ : ∃ z, n = z + 1 := ⟨n - 1, by omega⟩
    have c1 : st3 (1 : Int32).toNatClampNeg < nI u := by
      rw [s99]
      exact nI_lt (by omega) (by omega)
    have c2 : (100 : Int32) ≤ nI u := nI_le (a := 100) (by omega) (by omega)
    refine ⟨x4, x6, m3, m4, m5, ?_, ?_, hT⟩
    · rw [fX5_bestTrim_L75.eq_2, if_pos c1]
    · rw [fM_trimmed_L58.eq_2, if_pos c2]
  | succ d ih =>
    intro u n x4 x6 m3 m4 m5 hu hn hT
    obtain ⟨n, rfl⟩ : ∃ z, n = z + 1 := ⟨n - 1, by omega⟩
    have bp : BI (nI p) 1 9999 := BI_nI (by omega) (by omega) (by omega)
    have bu : BI (nI u) 0 99 := BI_nI (by omega) (by omega) (by omega)
    have hx := rk_X hN hBD hB hnp h5 bp bu hP
    have hm := t74_0 w2 m3 m4 m5 hN hBD hB hnp h5 bp bu
    obtain ⟨b1, b3⟩ := ws_B hBD hB hnp h5 bp bu
    obtain ⟨y4, y6, k3, k4, k5, e1, e2, e3⟩ := t58_s (v2 := v2) (n := n) (show u ≤ 99 by omega) rfl (by omega) b1 b3 rfl hx hm hT
    obtain ⟨r1, r2, r3, r4, r5, f1, f2, f3⟩ := ih (u + 1) n y4 y6 k3 k4 k5 (by omega) (by omega) e3
    exact ⟨r1, r2, r3, r4, r5, e1.trans f1, e2.trans f2, f3⟩
theorem t49 {b np : Nat} (hN : 500 ≤ N) (hBD : BD M) (hB : BT M) (hnp : M.1 7 = nI np) (h5 : np ≤ 5) (hb : b ≤ 9999) (hP : PR σ M np) : ∀ (d p n : Nat) (x4 : Int64) (x6 m3 m4 m5 : Int32), p + d = b + 1 → d < n → 1 ≤ p → Tbb x4 x6 m3 m4 m5 → ∃ r : Int32, fX5_bestTrim_L62 N (nI b) n x4 x6 (nI p) σ = some (r, σ) ∧ fM_trimmed_L49 N M (nI b) n m3 m4 m5 (nI p) = some r := by
  intro d
  induction d with
  | zero =>
    intro p n x4 x6 m3 m4 m5 hp hn h1 hT
    obtain ⟨n, rfl⟩ : ∃ z, n = z + 1 := ⟨n - 1, by omega⟩
    have e : x6 = m3 := by
      rcases hT with ⟨h2, h3⟩ | ⟨z, w', s', _, _, _, h4, h5, _⟩
      · rw [h2, h3]
      · rw [h4, h5]
    refine ⟨x6, ?_, ?_⟩
    · rw [fX5_bestTrim_L62.eq_2, if_pos (nI_lt (by omega) (by omega))]
    · rw [fM_trimmed_L49.eq_2, if_pos (nI_lt (by omega) (by omega)), e]
  | succ d ih =>
    intro p n x4 x6 m3 m4 m5 hp hn h1 hT
    obtain ⟨n, rfl⟩ : ∃ z, n = z + 1 := ⟨n - 1, by omega⟩
    obtain ⟨x4', x6', m3', m4', m5', r1, r2, r3⟩ := t58 (N := N) (w2 := nI b) (v2 := nI b) (by omega) hBD hB hnp h5 h1 (show p ≤ 9999 by omega) hP 100 0 N x4 x6 m3 m4 m5 (by omega) (by omega) hT
    have r1' : fX5_bestTrim_L75 N (nI b) (nI p) N x4 x6 (st2 (1 : Int32).toNatClampNeg) σ = some (x4', x6', σ) := r1
    have r2' : fM_trimmed_L58 N M (nI b) (nI p) N m3 m4 m5 0 = some (m3', m4', m5') := r2
    rw [fX5_bestTrim_L62.eq_2, fM_trimmed_L49.eq_2, if_neg (nI_nlt (by omega) (by omega)), if_neg (nI_nlt (by omega) (by omega)), r1', r2', nI_1]
    simp only [bd3]
    exact ih (p + 1) n _ _ _ _ _ (by omega) (by omega) (by omega) r3
theorem op_trimmed (a b : Int32) (hN : 5000 ≤ N) (h : Rel X M) : ∃ r X' M', fX6_trimmed N X a b = some (r, X') ∧ lf M (fM_trimmed N M a b) = some (r, M') ∧ Rel X' M' := by
  obtain ⟨⟨hRD, hBD⟩, ⟨hRT, hBT, hTC⟩, hB, hF⟩ := id h
  obtain ⟨np, hnp, h5⟩ := points_n hBT
  have s2 : st2 2 = 1 := by decide
  have s3 : st3 2 = 9999 := by decide
  rcases within_cases N a 1 9999 with ⟨w1, v1⟩ | ⟨w1, v1⟩
  · have v1' := ib v1
    simp only [Int32.reduceToInt] at v1'
    have n1 : ¬ a < 1 := fun z => by
      have := Int32.lt_iff_toInt_lt.mp z
      simp only [Int32.reduceToInt] at this
      omega
    rcases within_cases N b a 9999 with ⟨w2, v2⟩ | ⟨w2, v2⟩
    · have v2' := ib v2
      simp only [Int32.reduceToInt] at v2'
      have n2 : ¬ b < a := fun z => by
        have := Int32.lt_iff_toInt_lt.mp z
        omega
      have n3 : ¬ 9999 < b := fun z => by
        have := Int32.lt_iff_toInt_lt.mp z
        simp only [Int32.reduceToInt] at this
        omega
      by_cases c3 : b - a ≤ 300
      · by_cases c0 : M.1 7 = 0
        · refine ⟨-3, X, M, ?_, ?_, h⟩
          · simp [fX6_trimmed, fX5_bestTrim, s2, s3, wX_M, w1, w2, bd1, bd2, c3, hRT.2.2.1, c0]
          · simp [fM_trimmed, n1, n2, n3, c3, c0, lf]
        · obtain ⟨σ, r1, r2, r3, r4⟩ := pr_X (N := N) hN hRD hRT hBT hTC hnp h5
          obtain ⟨p, p1, p2, p3⟩ := BIn v1 (by decide)
          obtain ⟨q, q1, q2, q3⟩ := BIn v2 (by omega)
          simp only [Int32.reduceToInt] at p2 p3 q3
          have pq : p ≤ q := by
            rw [p1, nI_toInt (by omega)] at q2
            omega
          have dq : q - p ≤ 300 := by
            have := Int32.le_iff_toInt_le.mp c3
            rw [p1, q1, pk_sub pq, nI_toInt (by omega)] at this
            simp only [Int32.reduceToInt] at this
            omega
          obtain ⟨r, t1, t2⟩ := t49 (N := N) (b := q) (by omega) hBD hBT hnp h5 (by omega) r4 (q + 1 - p) p N 0 (-1) (-1) 0 0 (by omega) (by omega) (by omega) (Or.inl ⟨rfl, rfl⟩)
          rw [← p1, ← q1] at t1 t2
          refine ⟨r, σ, M, ?_, ?_, Rel_PX h r2 r3⟩
          · simp [fX6_trimmed, fX5_bestTrim, s2, s3, wX_M, w1, w2, bd1, bd2, c3, hRT.2.2.1, c0, r1, t1]
          · simp [fM_trimmed, n1, n2, n3, c3, c0, lf, t2]
      · refine ⟨-1, X, M, ?_, ?_, h⟩
        · simp [fX6_trimmed, fX5_bestTrim, s2, s3, wX_M, w1, w2, bd1, bd2, c3]
        · simp [fM_trimmed, n1, n2, n3, c3, lf]
    · refine ⟨-1, X, M, ?_, ?_, h⟩
      · simp [fX6_trimmed, fX5_bestTrim, s2, s3, wX_M, w1, w2, bd1, bd2]
      · by_cases n2 : b < a
        · simp [fM_trimmed, n1, n2, lf]
        · have n3 : 9999 < b := by
            rw [Int32.lt_iff_toInt_lt] at n2 ⊢
            simp only [Int32.reduceToInt] at v2 ⊢
            omega
          simp [fM_trimmed, n1, n2, n3, lf]
  · refine ⟨-1, X, M, ?_, ?_, h⟩
    · simp [fX6_trimmed, fX5_bestTrim, s2, s3, wX_M, w1, bd1, bd2]
    · by_cases n1 : a < 1
      · simp [fM_trimmed, n1, lf]
      · by_cases n2 : b < a
        · simp [fM_trimmed, n1, n2, lf]
        · have n3 : 9999 < b := by
            rw [Int32.lt_iff_toInt_lt] at n1 n2 ⊢
            simp only [Int32.reduceToInt] at v1 n1 ⊢
            omega
          simp [fM_trimmed, n1, n2, n3, lf]
end
