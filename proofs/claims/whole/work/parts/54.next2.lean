/-! the next best test, on -/
section
variable {N : Nat} {X M : St}
def grS (L : Nat → Int32) (G : Nat → Nat → Nat) (t S F : Nat) : Nat → Int32
  | 0 => 0
  | k + 1 => jmax (grS L G t S F k) (likS L (S &&& G t k) F)
theorem jmax_B {a b : Int32} {l h : Int} (ha : BI a l h) (hb : BI b l h) : BI (jmax a b) l h := by
  unfold jmax
  split
  · exact hb
  · exact ha
theorem gr_B {L : Nat → Int32} {G : Nat → Nat → Nat} {t S F : Nat} (h12 : F ≤ 12) (hL : ∀ j : Nat, j < F → BI (L j) 1 99) : ∀ k : Nat, BI (grS L G t S F k) 0 1188
  | 0 => (show BI (0 : Int32) 0 1188 from ⟨by decide, by decide⟩)
  | k + 1 => jmax_B (gr_B h12 hL k) (BI_up (lk_B h12 hL F (Nat.le_refl _)) (by omega) (by omega))
theorem gr_X {S F t : Nat} {G : Nat → Nat → Nat} {L : Nat → Int32} (hN : 20 ≤ N) (hF : X.1 12 = nI F) (h12 : F ≤ 12) (hS : S < 4096) (hL : X.2 11 = L) (hG : GX X G) (h14 : X.1 14 = nI S) (ht : t < 12) : ∀ (d k n : Nat), k + d = 4 → d < n → fX2_greatestLikelihood_L4 N X (nI t) n (grS L G t S F k) (nI k) = some (grS L G t S F 4) := by
  intro d
  induction d with
  | zero =>
    intro k n hk hn
    obtain ⟨n, rfl⟩ : ∃ z, n = z + 1 := ⟨n - 1, by omega⟩
    have hk : k = 4 := by omega
    subst hk
    rw [fX2_greatestLikelihood_L4.eq_2, if_pos (by decide)]
  | succ d ih =>
    intro k n hk hn
    obtain ⟨n, rfl⟩ : ∃ z, n = z + 1 := ⟨n - 1, by omega⟩
    have e4 : ¬ (4 : Int32) ≤ nI k := nI_ge (b := 4) (by omega) (by omega)
    have hlt : S &&& G t k < 4096 := Nat.lt_of_le_of_lt Nat.and_le_left hS
    have hl := lk_X (N := N) hF h12 hlt hL F 0 N (by omega) (by omega)
    have hl' : fX2_likelihoodOf N X (nI (S &&& G t k)) = some (likS L (S &&& G t k) F) := hl
    have st := ih (k + 1) n (by omega) (by omega)
    rw [fX2_greatestLikelihood_L4.eq_2, if_neg e4, ix4, gi_ok (by rw [nI_toInt (by omega)]; omega) (by rw [nI_toInt (by omega)]; omega), tn_nI (by omega), hG t k ht (by omega), h14, nb_and, Nat.and_comm, hl', nI_1]
    exact st
theorem gr_M {S F t : Nat} {G : Nat → Nat → Nat} {L : Nat → Int32} (w1 w2 : Int32) (hN : 20 ≤ N) (hF : M.1 10 = nI F) (h12 : F ≤ 12) (hS : S < 2 ^ F) (hS' : S < 4096) (hL : M.2 9 = L) (hG : GM M G) (h14 : M.1 12 = nI S) (ht : t < 12) : ∀ (d k n : Nat), k + d = 4 → d < n → fM_nextBest_L33 N M w1 w2 (nI t) n (grS L G t S F k) (nI k) = some (grS L G t S F 4) := by
  intro d
  induction d with
  | zero =>
    intro k n hk hn
    obtain ⟨n, rfl⟩ : ∃ z, n = z + 1 := ⟨n - 1, by omega⟩
    have hk : k = 4 := by omega
    subst hk
    rw [fM_nextBest_L33.eq_2, if_pos (by decide)]
  | succ d ih =>
    intro k n hk hn
    obtain ⟨n, rfl⟩ : ∃ z, n = z + 1 := ⟨n - 1, by omega⟩
    have e4 : ¬ (4 : Int32) ≤ nI k := nI_ge (b := 4) (by omega) (by omega)
    have hlt : S &&& G t k < 4096 := Nat.lt_of_le_of_lt Nat.and_le_left hS'
    have hl := lk_M (N := N) w1 w2 (nI t) (grS L G t S F k) (nI k) hF h12 hlt hL F 0 N (by omega) (by omega)
    have hl' : fM_nextBest_L58 N M w1 w2 (nI t) (grS L G t S F k) (nI k) (nI (S &&& G t k)) N 0 0 = some (likS L (S &&& G t k) F) := hl
    have st := ih (k + 1) n (by omega) (by omega)
    rw [grS, jmax] at st
    rw [fM_nextBest_L33.eq_2, if_neg e4, h14, lv_M hN hF h12 ht hS hS' (fun f hf => hG t k f ht (by omega) hf), nI_1]
    simp only [bd1, hl']
    by_cases c : grS L G t S F k < likS L (S &&& G t k) F
    · rw [if_neg (Int32.not_le.mpr c)]
      rw [if_pos c] at st
      exact st
    · rw [if_pos (Int32.not_lt.mp c)]
      rw [if_neg c] at st
      exact st
theorem nb_L {S F T : Nat} {G : Nat → Nat → Nat} {L P : Nat → Int32} (hN : 20 ≤ N) (hT : M.1 11 = nI T) (hT' : X.1 13 = nI T) (t12 : T ≤ 12) (hF : M.1 10 = nI F) (hF' : X.1 12 = nI F) (h12 : F ≤ 12) (hS : S < 2 ^ F) (hS' : S < 4096) (hL : M.2 9 = L) (hL' : X.2 11 = L) (hP : M.2 10 = P) (hP' : X.2 12 = P) (hLB : ∀ j : Nat, j < F → BI (L j) 1 99) (hG : GM M G) (hG' : GX X G) (hg : GG G) (h14 : M.1 12 = nI S) (h14' : X.1 14 = nI S) : ∀ (d t n : Nat) (b x2 m2 x3 : Int32), t + d = T → d < n → (b = -4 ∨ (∃ z : Nat, b = nI z ∧ z < T ∧ x2 = m2 ∧ x3 = P z)) → ∃ r : Int32, fX2_nextBest_L10 N X n b x2 x3 (nI t) = some r ∧ fM_nextBest_L7 N M n b m2 (nI t) = some r := by
  intro d
  induction d with
  | zero =>
    intro t n b x2 m2 x3 ht hn hw
    obtain ⟨n, rfl⟩ : ∃ z, n = z + 1 := ⟨n - 1, by omega⟩
    have ht : t = T := by omega
    subst ht
    refine ⟨b, ?_, ?_⟩
    · rw [fX2_nextBest_L10.eq_2, hT', if_pos (nI_le (by omega) (by omega))]
    · rw [fM_nextBest_L7.eq_2, hT, if_pos (nI_le (by omega) (by omega))]
  | succ d ih =>
    intro t n b x2 m2 x3 ht hn hw
    obtain ⟨n, rfl⟩ : ∃ z, n = z + 1 := ⟨n - 1, by omega⟩
    have t0 : t < 12 := by omega
    have eX := ps_X (N := N) hN hG' hg t0 hS'
    have eM := ps_M (N := N) hN hG hg hF h12 t0 hS hS'
    have gX : fX2_greatestLikelihood N X (nI t) = some (grS L G t S F 4) := gr_X (N := N) hN hF' h12 hS' hL' hG' h14' t0 4 0 N (by omega) (by omega)
    have gM : fM_nextBest_L33 N M b m2 (nI t) N 0 0 = some (grS L G t S F 4) := gr_M (N := N) b m2 hN hF h12 hS hS' hL hG h14 t0 4 0 N (by omega) (by omega)
    have gi12 : ∀ x : Option Int32, gi (nI t) 12 x = x := fun x => gi_ok (by rw [nI_toInt (by omega)]; omega) (by rw [nI_toInt (by omega)]; omega)
    rw [fX2_nextBest_L10.eq_2, fM_nextBest_L7.eq_2, hT, hT', if_neg (nI_ge (by omega) (by omega)), if_neg (nI_ge (by omega) (by omega)), h14, h14', eX, eM, nI_1]
    simp only [bd1]
    by_cases c : pt G t S
    · rw [pt_pos c, if_neg (by decide), if_neg (by decide), gX, gM]
      simp only
      rw [gi12, gi12, gi12, tn_nI (by omega), hP', hP]
      rcases hw with h1 | ⟨z, h1, h2, h3, h4⟩
      · rw [h1, if_pos (show (-4 : Int32) = -4 from rfl), if_pos (show (-4 : Int32) < 0 by decide)]
        exact ih (t + 1) n (nI t) _ _ _ (by omega) (by omega) (Or.inr ⟨t, rfl, by omega, rfl, rfl⟩)
      · have z4 : ¬ nI z = (-4 : Int32) := fun y => (nI_pos (by omega) : ¬ nI z < 0) (by rw [y]; decide)
        rw [h1, h3, if_neg z4, if_neg (nI_pos (by omega)), gi_ok (by rw [nI_toInt (by omega)]; omega) (by rw [nI_toInt (by omega)]; omega), tn_nI (by omega), h4]
        by_cases c1 : grS L G t S F 4 < m2
        · rw [if_pos c1, if_pos c1]
          exact ih (t + 1) n (nI t) _ _ _ (by omega) (by omega) (Or.inr ⟨t, rfl, by omega, rfl, rfl⟩)
        · rw [if_neg c1, if_neg c1]
          by_cases c2 : grS L G t S F 4 = m2
          · rw [if_pos c2, if_pos c2]
            by_cases c3 : P z ≤ P t
            · rw [if_pos c3, if_pos c3]
              exact ih (t + 1) n (nI z) _ _ _ (by omega) (by omega) (Or.inr ⟨z, rfl, h2, rfl, rfl⟩)
            · rw [if_neg c3, if_neg c3]
              exact ih (t + 1) n (nI t) _ _ _ (by omega) (by omega) (Or.inr ⟨t, rfl, by omega, rfl, rfl⟩)
          · rw [if_neg c2, if_neg c2]
            exact ih (t + 1) n (nI z) _ _ _ (by omega) (by omega) (Or.inr ⟨z, rfl, h2, rfl, rfl⟩)
    · rw [pt_neg c, if_pos rfl, if_pos rfl]
      exact ih (t + 1) n b x2 m2 x3 (by omega) (by omega) hw
theorem nb_XM (hN : 20 ≤ N) (hR : RF X M) (hB : BF M) : ∃ r : Int32, fX2_nextBest N X = some r ∧ fM_nextBest N M = some r := by
  obtain ⟨F, T, S, f1, f2, f3, f4, f5, f6, f7⟩ := flt_n hB
  obtain ⟨g1, g2, g3⟩ := G_of hR hB
  obtain ⟨e0, e1, e2, e3, e4, e5, e6⟩ := id hR
  obtain ⟨b0, b1, b2, b3, b4, b5⟩ := id hB
  exact nb_L (N := N) hN f3 (e1.trans f3) f4 f1 (e0.trans f1) f2 f6 f7 rfl e3 rfl e4 (fun j hj => b3 j (by rw [f1, nI_toInt (by omega)]; omega)) g2 g1 g3 f5 (e2.trans f5) T 0 N (-4) 0 0 0 (by omega) (by omega) (Or.inl rfl)
end
