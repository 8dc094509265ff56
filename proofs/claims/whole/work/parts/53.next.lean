/-! the next best test -/
section
variable {N : Nat} {X M : St}
def GX (X : St) (G : Nat → Nat → Nat) : Prop := ∀ t r : Nat, t < 12 → r < 4 → X.2 13 (4 * t + r) = nI (G t r)
def GM (M : St) (G : Nat → Nat → Nat) : Prop := ∀ t r f : Nat, t < 12 → r < 4 → f < 12 → ((G t r).testBit f = true ↔ M.2 11 (12 * t + f) = nI r)
def GG (G : Nat → Nat → Nat) : Prop := (∀ t r : Nat, t < 12 → r < 4 → G t r < 4096) ∧ (∀ t f : Nat, t < 12 → f < 12 → ∃ r : Nat, r < 4 ∧ (G t r).testBit f = true) ∧ (∀ t f r r' : Nat, t < 12 → f < 12 → r < 4 → r' < 4 → (G t r).testBit f = true → (G t r').testBit f = true → r = r')
theorem G_of (hR : RF X M) (hB : BF M) : GX X (gv X) ∧ GM M (gv X) ∧ GG (gv X) := by
  obtain ⟨b0, b1, b2, b3, b4, b5⟩ := hB
  refine ⟨fun t r ht hr => (gv_eq hR ht hr).1, fun t r f ht hr hf => (gv_eq hR ht hr).2.2 f hf, fun t r ht hr => (gv_eq hR ht hr).2.1, ?_, ?_⟩
  · intro t f ht hf
    obtain ⟨q, q1, q2, q3⟩ := BIn (b5 t f ht hf) (by omega)
    exact ⟨q, by omega, ((gv_eq hR ht (by omega)).2.2 f hf).mpr q1⟩
  · intro t f r r' ht hf hr hr' h1 h2
    have h1 := ((gv_eq hR ht hr).2.2 f hf).mp h1
    have h2 := ((gv_eq hR ht hr').2.2 f hf).mp h2
    rw [h1] at h2
    exact (nI_eq (by omega) (by omega)).mp h2
def pt (G : Nat → Nat → Nat) (t S : Nat) : Prop := ∀ r : Nat, r < 4 → ¬ S &&& G t r = S
def ptI (G : Nat → Nat → Nat) (t S : Nat) : Int32 := if S &&& G t 0 = S ∨ S &&& G t 1 = S ∨ S &&& G t 2 = S ∨ S &&& G t 3 = S then 0 else 1
theorem pt_pos {G : Nat → Nat → Nat} {t S : Nat} (h : pt G t S) : ptI G t S = 1 := if_neg (fun z => by
  rcases z with z | z | z | z
  · exact h 0 (by omega) z
  · exact h 1 (by omega) z
  · exact h 2 (by omega) z
  · exact h 3 (by omega) z)
theorem pt_neg {G : Nat → Nat → Nat} {t S : Nat} (h : ¬ pt G t S) : ptI G t S = 0 := if_pos (by
  by_cases c0 : S &&& G t 0 = S
  · exact Or.inl c0
  · by_cases c1 : S &&& G t 1 = S
    · exact Or.inr (Or.inl c1)
    · by_cases c2 : S &&& G t 2 = S
      · exact Or.inr (Or.inr (Or.inl c2))
      · by_cases c3 : S &&& G t 3 = S
        · exact Or.inr (Or.inr (Or.inr c3))
        · exfalso
          apply h
          intro r hr
          rcases (show r = 0 ∨ r = 1 ∨ r = 2 ∨ r = 3 by omega) with e | e | e | e <;> subst e <;> assumption)
theorem psX_L {G : Nat → Nat → Nat} {t S : Nat} (hG : GX X G) (hg : GG G) (ht : t < 12) (hS : S < 4096) : ∀ (d r n : Nat), r + d = 4 → d < n → (∀ r' : Nat, r' < r → ¬ S &&& G t r' = S) → fX2_partsSet_L2 N X (nI t) (nI S) n (nI r) = some (ptI G t S) := by
  intro d
  induction d with
  | zero =>
    intro r n hr hn hw
    obtain ⟨n, rfl⟩ : ∃ z, n = z + 1 := ⟨n - 1, by omega⟩
    have hr : r = 4 := by omega
    subst hr
    rw [fX2_partsSet_L2.eq_2, if_pos (by decide), pt_pos hw]
  | succ d ih =>
    intro r n hr hn hw
    obtain ⟨n, rfl⟩ : ∃ z, n = z + 1 := ⟨n - 1, by omega⟩
    have e4 : ¬ (4 : Int32) ≤ nI r := nI_ge (b := 4) (by omega) (by omega)
    have hlt : S &&& G t r < 4096 := Nat.lt_of_le_of_lt Nat.and_le_left hS
    rw [fX2_partsSet_L2.eq_2, if_neg e4, ix4, gi_ok (by rw [nI_toInt (by omega)]; omega) (by rw [nI_toInt (by omega)]; omega), tn_nI (by omega), hG t r ht (by omega), nb_and, Nat.and_comm, nI_1]
    by_cases c : S &&& G t r = S
    · rw [c, if_pos rfl, pt_neg (fun z => z r (by omega) c)]
    · rw [if_neg (fun z => c ((nI_eq (by omega) (by omega)).mp z))]
      refine ih (r + 1) n (by omega) (by omega) (fun r' h' => ?_)
      by_cases cr : r' = r
      · rw [cr]; exact c
      · exact hw r' (by omega)
theorem ps_X {G : Nat → Nat → Nat} {t S : Nat} (hN : 20 ≤ N) (hG : GX X G) (hg : GG G) (ht : t < 12) (hS : S < 4096) : fX2_partsSet N X (nI t) (nI S) = some (ptI G t S) := psX_L hG hg ht hS 4 0 N (by omega) (by omega) (fun _ h => absurd h (by omega))
theorem bit_lt {S k f : Nat} (hS : S < 2 ^ k) (h : S.testBit f = true) : f < k := by
  by_cases c : f < k
  · exact c
  · have : S < 2 ^ f := Nat.lt_of_lt_of_le hS (Nat.pow_le_pow_right (by omega) (by omega))
    rw [Nat.testBit_lt_two_pow this] at h
    cases h
theorem and_all {S g : Nat} : S &&& g = S ↔ ∀ f : Nat, S.testBit f = true → g.testBit f = true := by
  constructor
  · intro h f hf
    rw [← h, Nat.testBit_and, Bool.and_eq_true] at hf
    exact hf.2
  · intro h
    apply Nat.eq_of_testBit_eq
    intro i
    rw [Nat.testBit_and]
    cases c : S.testBit i
    · rfl
    · rw [h i c]; rfl
theorem ex_bit {S : Nat} (h : S ≠ 0) : ∃ f : Nat, S.testBit f = true := Nat.exists_testBit_of_ne_zero h
theorem pt_iff {G : Nat → Nat → Nat} {t S : Nat} (hg : GG G) (ht : t < 12) (hS : S < 4096) : pt G t S ↔ ∃ r : Nat, r < 4 ∧ ¬ S &&& G t r = 0 ∧ ¬ S &&& G t r = S := by
  constructor
  · intro h
    have h0 : S ≠ 0 := by
      intro z
      apply h 0 (by omega)
      rw [z, Nat.zero_and]
    obtain ⟨f, hf⟩ := ex_bit h0
    have f12 : f < 12 := bit_lt (k := 12) hS hf
    obtain ⟨r, hr, hb⟩ := hg.2.1 t f ht f12
    refine ⟨r, hr, fun z => ?_, h r hr⟩
    have := congrArg (fun q => q.testBit f) z
    simp [Nat.testBit_and, hf, hb] at this
  · intro h r' hr' z
    obtain ⟨r, hr, h1, h2⟩ := h
    obtain ⟨f, hf⟩ := ex_bit h1
    rw [Nat.testBit_and, Bool.and_eq_true] at hf
    have f12 : f < 12 := bit_lt (k := 12) hS hf.1
    have := hg.2.2 t f r r' ht f12 hr hr' hf.2 (and_all.mp z f hf.1)
    subst this
    exact h2 z
theorem psM_L {G : Nat → Nat → Nat} {t S F : Nat} (hN : 20 ≤ N) (hG : GM M G) (hg : GG G) (hF : M.1 10 = nI F) (h12 : F ≤ 12) (ht : t < 12) (hS : S < 2 ^ F) (hS' : S < 4096) : ∀ (d r n : Nat) (v : Int32), r + d = 4 → d < n → ((v = 1 ∧ pt G t S) ∨ (v = 0 ∧ ∀ r' : Nat, r' < r → ¬ (¬ S &&& G t r' = 0 ∧ ¬ S &&& G t r' = S))) → fM_parts_L5 N M (nI S) (nI t) n v (nI r) = some (ptI G t S) := by
  intro d
  induction d with
  | zero =>
    intro r n v hr hn hw
    obtain ⟨n, rfl⟩ : ∃ z, n = z + 1 := ⟨n - 1, by omega⟩
    have hr : r = 4 := by omega
    subst hr
    rw [fM_parts_L5.eq_2, if_pos (by decide)]
    rcases hw with ⟨h1, h2⟩ | ⟨h1, h2⟩
    · rw [h1, bz1, pt_pos h2]
    · rw [h1, bz0, pt_neg]
      intro z
      obtain ⟨r, a1, a2, a3⟩ := (pt_iff hg ht hS').mp z
      exact h2 r a1 ⟨a2, a3⟩
  | succ d ih =>
    intro r n v hr hn hw
    obtain ⟨n, rfl⟩ : ∃ z, n = z + 1 := ⟨n - 1, by omega⟩
    have e4 : ¬ (4 : Int32) ≤ nI r := nI_ge (b := 4) (by omega) (by omega)
    have hlt : S &&& G t r < 4096 := Nat.lt_of_le_of_lt Nat.and_le_left hS'
    rw [fM_parts_L5.eq_2, if_neg e4, lv_M hN hF h12 ht hS hS' (fun f hf => hG t r f ht (by omega) hf), nI_1]
    simp only [bd1]
    rcases hw with ⟨h1, h2⟩ | ⟨h1, h2⟩
    · rw [h1, if_neg (by decide)]
      exact ih (r + 1) n 1 (by omega) (by omega) (Or.inl ⟨rfl, h2⟩)
    · rw [h1, if_pos rfl]
      have nx : ¬ (¬ S &&& G t r = 0 ∧ ¬ S &&& G t r = S) → ∀ r' : Nat, r' < r + 1 → ¬ (¬ S &&& G t r' = 0 ∧ ¬ S &&& G t r' = S) := by
        intro z r' h'
        by_cases cr : r' = r
        · rw [cr]; exact z
        · exact h2 r' (by omega)
      by_cases c0 : S &&& G t r = 0
      · rw [if_pos (show nI (S &&& G t r) = 0 by rw [c0]; rfl)]
        exact ih (r + 1) n 0 (by omega) (by omega) (Or.inr ⟨rfl, nx (fun z => z.1 c0)⟩)
      · rw [if_neg (nI_ne0 (by omega) (by omega))]
        by_cases c1 : S &&& G t r = S
        · rw [if_pos (show nI (S &&& G t r) = nI S by rw [c1])]
          exact ih (r + 1) n 0 (by omega) (by omega) (Or.inr ⟨rfl, nx (fun z => z.2 c1)⟩)
        · rw [if_neg (fun z => c1 ((nI_eq (by omega) (by omega)).mp z))]
          exact ih (r + 1) n 1 (by omega) (by omega) (Or.inl ⟨rfl, (pt_iff hg ht hS').mpr ⟨r, by omega, c0, c1⟩⟩)
theorem ps_M {G : Nat → Nat → Nat} {t S F : Nat} (hN : 20 ≤ N) (hG : GM M G) (hg : GG G) (hF : M.1 10 = nI F) (h12 : F ≤ 12) (ht : t < 12) (hS : S < 2 ^ F) (hS' : S < 4096) : fM_parts N M (nI S) (nI t) = some (ptI G t S) := psM_L hN hG hg hF h12 ht hS hS' 4 0 N 0 (by omega) (by omega) (Or.inr ⟨rfl, fun _ h => absurd h (by omega)⟩)
/-! likelihoods -/
def likS (L : Nat → Int32) (S : Nat) : Nat → Int32
  | 0 => 0
  | k + 1 => likS L S k + (if S.testBit k = true then L k else 0)
theorem lk_B {L : Nat → Int32} {S F : Nat} (h12 : F ≤ 12) (hL : ∀ j : Nat, j < F → BI (L j) 1 99) : ∀ k : Nat, k ≤ F → BI (likS L S k) 0 (99 * k) := by
  intro k
  induction k with
  | zero => intro _; exact (show BI (0 : Int32) 0 (99 * (0 : Nat)) from ⟨by decide, by decide⟩)
  | succ k ih =>
    intro hk
    have h1 := ih (by omega)
    have h2 : BI (if S.testBit k = true then L k else 0) 0 99 := by
      split
      · exact BI_up (hL k (by omega)) (by omega) (by omega)
      · exact ⟨by decide, by decide⟩
    have := add_BI h1 h2 (by omega) (by omega)
    exact BI_up this (by omega) (by omega)
theorem lk_X {S F : Nat} {L : Nat → Int32} (hF : X.1 12 = nI F) (h12 : F ≤ 12) (hS : S < 4096) (hL : X.2 11 = L) : ∀ (d k n : Nat), k + d = F → d < n → fX2_likelihoodOf_L4 N X (nI S) n (likS L S k) (nI k) = some (likS L S F) := by
  intro d
  induction d with
  | zero =>
    intro k n hk hn
    obtain ⟨n, rfl⟩ : ∃ z, n = z + 1 := ⟨n - 1, by omega⟩
    have hk : k = F := by omega
    subst hk
    rw [fX2_likelihoodOf_L4.eq_2, hF, if_pos (nI_le (by omega) (by omega))]
  | succ d ih =>
    intro k n hk hn
    obtain ⟨n, rfl⟩ : ∃ z, n = z + 1 := ⟨n - 1, by omega⟩
    have st := ih (k + 1) n (by omega) (by omega)
    rw [likS] at st
    rw [fX2_likelihoodOf_L4.eq_2, hF, if_neg (nI_ge (by omega) (by omega)), gi_ok (by rw [nI_toInt (by omega)]; omega) (by rw [nI_toInt (by omega)]; omega), tn_nI (by omega), nI_1, hL]
    by_cases c : S.testBit k = true
    · rw [if_pos ((nb_bit1 (by omega) (by omega)).mpr c)]
      rw [if_pos c] at st
      exact st
    · rw [if_neg (fun z => c ((nb_bit1 (by omega) (by omega)).mp z))]
      rw [if_neg c, Int32.add_zero] at st
      exact st
theorem lk_M {S F : Nat} {L : Nat → Int32} (w1 w2 w3 w4 w5 : Int32) (hF : M.1 10 = nI F) (h12 : F ≤ 12) (hS : S < 4096) (hL : M.2 9 = L) : ∀ (d k n : Nat), k + d = F → d < n → fM_nextBest_L58 N M w1 w2 w3 w4 w5 (nI S) n (likS L S k) (nI k) = some (likS L S F) := by
  intro d
  induction d with
  | zero =>
    intro k n hk hn
    obtain ⟨n, rfl⟩ : ∃ z, n = z + 1 := ⟨n - 1, by omega⟩
    have hk : k = F := by omega
    subst hk
    rw [fM_nextBest_L58.eq_2, hF, if_pos (nI_le (by omega) (by omega))]
  | succ d ih =>
    intro k n hk hn
    obtain ⟨n, rfl⟩ : ∃ z, n = z + 1 := ⟨n - 1, by omega⟩
    have st := ih (k + 1) n (by omega) (by omega)
    rw [likS] at st
    rw [fM_nextBest_L58.eq_2, hF, if_neg (nI_ge (by omega) (by omega)), gi_ok (by rw [nI_toInt (by omega)]; omega) (by rw [nI_toInt (by omega)]; omega), tn_nI (by omega), nI_1, hL]
    by_cases c : S.testBit k = true
    · rw [if_pos ((nb_bit1 (by omega) (by omega)).mpr c)]
      rw [if_pos c] at st
      exact st
    · rw [if_neg (fun z => c ((nb_bit1 (by omega) (by omega)).mp z))]
      rw [if_neg c] at st
      exact st
end
