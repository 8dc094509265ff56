/-! trimming: what is made ready -/
section
variable {N : Nat} {X M σ : St}
def PX0 (σ X : St) : Prop := σ.1 = X.1 ∧ ∀ a : Nat, a ≠ 6 → a ≠ 7 → σ.2 a = X.2 a
def PX (σ X : St) : Prop := (∀ k : Nat, k ≠ 9 → σ.1 k = X.1 k) ∧ ∀ a : Nat, a ≠ 6 → a ≠ 7 → a ≠ 8 → σ.2 a = X.2 a
def abS (M : St) : Int32 := if M.1 2 = 1 then M.1 1 else -M.1 1
def PK (σ M : St) (k : Nat) : Prop := σ.2 6 k = capS (M.1 5) (M.1 6) (M.2 3 k) ∧ σ.2 7 k = sgS (M.1 5) (M.1 6) (M.2 3 k) (M.2 2 0) (M.2 2 3) + abS M
def PR (σ M : St) (np : Nat) : Prop := σ.1 8 = nI np ∧ (∀ k : Nat, k < np → PK σ M k) ∧ ∀ c : Nat, 1 ≤ c → c ≤ 1098 → σ.2 8 c = tun (M.2 2 4) (nI c)
theorem tb_L {b : Int32} (hN : 100 ≤ N) (hb : BI b 1 9999) : ∀ (d c n : Nat) (σ : St), c + d = 1099 → d < n → 1 ≤ c → ∃ σ', fX5_prepareTrim_L96 N b n (nI c) σ = some σ' ∧ σ'.1 = σ.1 ∧ (∀ a : Nat, a ≠ 8 → σ'.2 a = σ.2 a) ∧ (∀ z : Nat, z < c → σ'.2 8 z = σ.2 8 z) ∧ ∀ z : Nat, c ≤ z → z ≤ 1098 → σ'.2 8 z = tun b (nI z) := by
  intro d
  induction d with
  | zero =>
    intro c n σ hc hn h1
    obtain ⟨n, rfl⟩ : ∃ z, n = z + 1 := ⟨n - 1, by omega⟩
    have hc : c = 1099 := by omega
    subst hc
    refine ⟨σ, ?_, rfl, fun _ _ => rfl, fun _ _ => rfl, fun z h1 h2 => absurd h1 (by omega)⟩
    rw [fX5_prepareTrim_L96.eq_2, if_pos (by decide)]
  | succ d ih =>
    intro c n σ hc hn h1
    obtain ⟨n, rfl⟩ : ∃ z, n = z + 1 := ⟨n - 1, by omega⟩
    have c0 : ¬ (1098 : Int32) < nI c := nI_nlt (a := 1098) (by omega) (by omega)
    rw [fX5_prepareTrim_L96.eq_2, if_neg c0, (tun_ok hN hb (BI_nI (n := c) (by omega) (by omega) (by omega))).1]
    simp only [bd1]
    rw [gi_ok (by rw [nI_toInt (by omega)]; omega) (by rw [nI_toInt (by omega)]; omega), tn_nI (by omega), nI_1]
    obtain ⟨σ', r1, r2, r3, r4, r5⟩ := ih (c + 1) n (sA σ 8 c (tun b (nI c))) (by omega) (by omega) (by omega)
    refine ⟨σ', r1, r2, ?_, ?_, ?_⟩
    · intro a ha
      rw [r3 a ha, sA_ne ha]
    · intro z hz
      rw [r4 z (by omega)]
      show upd (σ.2 8) c _ z = _
      rw [upd_ne (by omega)]
    · intro z hz hz2
      by_cases e : z = c
      · subst e
        rw [r4 z (by omega)]
        show upd (σ.2 8) z _ z = _
        rw [upd_eq]
      · exact r5 z (by omega) hz2
theorem RT_PX0 (h : RT X M) (d : PX0 σ X) : RT σ M := by
  unfold RT at h ⊢
  rw [d.1, d.2 5 (by decide) (by decide), d.2 4 (by decide) (by decide)]
  exact h
theorem PX0_6 {k : Nat} {v : Int32} (d : PX0 σ X) : PX0 (sA σ 6 k v) X := ⟨d.1, fun a h1 h2 => by rw [sA_ne h1]; exact d.2 a h1 h2⟩
theorem PX0_7 {k : Nat} {v : Int32} (d : PX0 σ X) : PX0 (sA σ 7 k v) X := ⟨d.1, fun a h1 h2 => by rw [sA_ne h2]; exact d.2 a h1 h2⟩
theorem pr_L {np : Nat} (hN : 5000 ≤ N) (hRT : RT X M) (hB : BT M) (hTC : TC X) (hnp : M.1 7 = nI np) (h5 : np ≤ 5) : ∀ (d k n : Nat) (σ : St), k + d = np → d < n → PX0 σ X → (∀ j : Nat, j < k → PK σ M j) → ∃ σ', fX5_prepareTrim_L31 N (abS M) n (nI k) σ = some σ' ∧ PX σ' X ∧ TC σ' ∧ PR σ' M np := by
  intro d
  induction d with
  | zero =>
    intro k n σ hk hn hP hK
    obtain ⟨n, rfl⟩ : ∃ z, n = z + 1 := ⟨n - 1, by omega⟩
    have hk : k = np := by omega
    subst hk
    have hRs := RT_PX0 hRT hP
    have e8 : σ.1 8 = nI k := hRs.2.2.1.trans hnp
    have e4 : σ.2 4 (4 : Int32).toNatClampNeg = M.2 2 4 := hRs.2.2.2.2 4 (by decide)
    have b4 : BI (M.2 2 4) 1 9999 := hB.2.2.2.2.2.2 4 (by decide) (by decide)
    rw [fX5_prepareTrim_L31.eq_2, e8, if_pos (nI_le (by omega) (by omega)), e4]
    by_cases c : σ.1 9 = M.2 2 4
    · rw [if_pos c]
      have x9 : X.1 9 = M.2 2 4 := by rw [← hP.1]; exact c
      refine ⟨σ, rfl, ⟨fun z _ => by rw [hP.1], fun a h1 h2 _ => hP.2 a h1 h2⟩, ?_, e8, hK, ?_⟩
      · unfold TC at hTC ⊢
        rw [hP.1, hP.2 8 (by decide) (by decide)]
        exact hTC
      · rcases hTC with z | z
        · exfalso
          rw [x9] at z
          rw [z] at b4
          exact absurd b4.1 (by decide)
        · rw [hP.2 8 (by decide) (by decide), ← x9]
          exact z.2
    · rw [if_neg c]
      obtain ⟨σ', r1, r2, r3, r4, r5⟩ := tb_L (N := N) (b := M.2 2 4) (by omega) b4 1098 1 N σ (by omega) (by omega) (by omega)
      have r1' : fX5_prepareTrim_L96 N (M.2 2 4) N 1 σ = some σ' := r1
      rw [r1']
      refine ⟨s1 σ' 9 (M.2 2 4), rfl, ⟨?_, ?_⟩, Or.inr ⟨b4, r5⟩, ?_, ?_, r5⟩
      · intro z hz
        show (if z = 9 then _ else σ'.1 z) = _
        rw [if_neg hz, r2, hP.1]
      · intro a h1 h2 h3
        show σ'.2 a = _
        rw [r3 a h3, hP.2 a h1 h2]
      · show σ'.1 8 = _
        rw [r2]
        exact e8
      · intro j hj
        obtain ⟨p1, p2⟩ := hK j hj
        refine ⟨?_, ?_⟩
        · show σ'.2 6 j = _
          rw [r3 6 (by decide)]
          exact p1
        · show σ'.2 7 j = _
          rw [r3 7 (by decide)]
          exact p2
  | succ d ih =>
    intro k n σ hk hn hP hK
    obtain ⟨n, rfl⟩ : ∃ z, n = z + 1 := ⟨n - 1, by omega⟩
    have hRs := RT_PX0 hRT hP
    have e8 : σ.1 8 = nI np := hRs.2.2.1.trans hnp
    have hpl : BI (M.2 3 k) 0 100 := hB.2.2.2.1 k (by rw [hnp, nI_toInt (by omega)]; omega)
    have g0 : ∀ x : Option St, gi (nI k) 5 x = x := fun x => gi_ok (by rw [nI_toInt (by omega)]; omega) (by rw [nI_toInt (by omega)]; omega)
    rw [fX5_prepareTrim_L31.eq_2, e8, if_neg (nI_ge (by omega) (by omega)), g0, tn_nI (by omega), hRs.2.2.2.1, cap_X hRs]
    simp only [bd1]
    rw [g0, g0, sg_X (X := sA σ 6 k (capS (M.1 5) (M.1 6) (M.2 3 k))) (by omega) (RT_PX0 hRT (PX0_6 hP)) hB hpl]
    simp only
    rw [g0, nI_1]
    refine ih (k + 1) n _ (by omega) (by omega) (PX0_7 (PX0_6 hP)) ?_
    intro j hj
    by_cases e : j = k
    · subst e
      refine ⟨?_, ?_⟩
      · show upd (σ.2 6) j _ j = _
        rw [upd_eq]
      · show upd (σ.2 7) j _ j = _
        rw [upd_eq]
    · obtain ⟨p1, p2⟩ := hK j (by omega)
      refine ⟨?_, ?_⟩
      · show upd (σ.2 6) k _ j = _
        rw [upd_ne e]
        exact p1
      · show upd (σ.2 7) k _ j = _
        rw [upd_ne e]
        exact p2
theorem pr_X {np : Nat} (hN : 5000 ≤ N) (hRD : RD X M) (hRT : RT X M) (hB : BT M) (hTC : TC X) (hnp : M.1 7 = nI np) (h5 : np ≤ 5) : ∃ σ', fX5_prepareTrim N X = some σ' ∧ PX σ' X ∧ TC σ' ∧ PR σ' M np := by
  obtain ⟨σ', r1, r2⟩ := pr_L (N := N) hN hRT hB hTC hnp h5 np 0 N X (by omega) (by omega) ⟨rfl, fun _ _ _ => rfl⟩ (fun j hj => absurd hj (by omega))
  refine ⟨σ', ?_, r2⟩
  rw [fX5_prepareTrim, isOver_X hRD]
  unfold abS at r1
  by_cases c : M.1 2 = 1
  · rw [if_pos c] at r1 ⊢
    simp only [bd1, mid_X hRD]
    rw [if_neg (by decide)]
    exact r1
  · rw [if_neg c] at r1 ⊢
    simp only [bd1, mid_X hRD]
    rw [if_pos trivial]
    exact r1
theorem Rel_PX (h : Rel X M) (d : PX σ X) (t : TC σ) : Rel σ M := by
  have a1 : ∀ k : Nat, σ.2 (15 + 4 * k) = X.2 (15 + 4 * k) := fun k => d.2 _ (by omega) (by omega) (by omega)
  have a2 : ∀ k : Nat, σ.2 (16 + 4 * k) = X.2 (16 + 4 * k) := fun k => d.2 _ (by omega) (by omega) (by omega)
  have a3 : ∀ k : Nat, σ.2 (17 + 4 * k) = X.2 (17 + 4 * k) := fun k => d.2 _ (by omega) (by omega) (by omega)
  have a4 : ∀ k : Nat, σ.2 (18 + 4 * k) = X.2 (18 + 4 * k) := fun k => d.2 _ (by omega) (by omega) (by omega)
  obtain ⟨hD, ⟨hRT, hBT, _⟩, hB, hF⟩ := h
  refine ⟨?_, ⟨?_, hBT, t⟩, ?_, ?_⟩
  · unfold RD at hD ⊢
    simp only [d.1 0 (by decide), d.2 0 (by decide) (by decide) (by decide), d.2 1 (by decide) (by decide) (by decide), d.2 2 (by decide) (by decide) (by decide)]
    exact hD
  · unfold RT at hRT ⊢
    simp only [d.1 6 (by decide), d.1 7 (by decide), d.1 8 (by decide), d.2 4 (by decide) (by decide) (by decide), d.2 5 (by decide) (by decide) (by decide)]
    exact hRT
  · unfold RB at hB ⊢
    simp only [d.1 10 (by decide), d.1 11 (by decide), d.2 9 (by decide) (by decide) (by decide), d.2 10 (by decide) (by decide) (by decide), a1, a2, a3, a4]
    exact hB
  · unfold RF at hF ⊢
    simp only [d.1 12 (by decide), d.1 13 (by decide), d.1 14 (by decide), d.2 11 (by decide) (by decide) (by decide), d.2 12 (by decide) (by decide) (by decide), d.2 13 (by decide) (by decide) (by decide)]
    exact hF
end
