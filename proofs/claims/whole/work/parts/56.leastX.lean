/-! the class's least cost -/
section
variable {N : Nat} {X M : St}
theorem jmax_n {a b : Nat} (ha : a < 2147483648) (hb : b < 2147483648) : jmax (nI a) (nI b) = nI (max a b) := by
  unfold jmax
  by_cases c : a < b
  · rw [if_pos (nI_lt c (by omega)), Nat.max_eq_right (by omega)]
  · rw [if_neg (nI_nlt (by omega) (by omega)), Nat.max_eq_left (by omega)]
theorem jmin_n {a b : Nat} (ha : a < 2147483648) (hb : b < 2147483648) : jmin (nI a) (nI b) = nI (min a b) := by
  unfold jmin
  by_cases c : b < a
  · rw [if_pos (nI_lt c (by omega)), Nat.min_eq_right (by omega)]
  · rw [if_neg (nI_nlt (by omega) (by omega)), Nat.min_eq_left (by omega)]
/-- what of the state the least cost reads -/
def LX (X : St) (G : Nat → Nat → Nat) (ow : Nat → Nat) (T : Nat) (v : Int32) : Prop := GX X G ∧ X.1 13 = nI T ∧ ∀ t : Nat, t < T → (if v = 0 then 1 else X.2 12 t) = nI (ow t)
theorem LX_st {G : Nat → Nat → Nat} {ow : Nat → Nat} {T j : Nat} {v z : Int32} (h : LX X G ow T v) : LX (sA X 14 j z) G ow T v := h
theorem dp_L {G : Nat → Nat → Nat} {ow : Nat → Nat} {T t S : Nat} {v : Int32} (h : LX X G ow T v) (hg : GG G) (ho : ∀ t : Nat, t < T → ow t ≤ 99) (ht : t < 12) (hS : S < 4096) (hc : ∀ r : Nat, r < 4 → X.2 14 (S &&& G t r) = nI (coS G ow T (S &&& G t r))) : ∀ (d k n : Nat), k + d = 4 → d < n → fX2_dearestPart_L5 N X (nI t) (nI S) n (nI (drS (coS G ow T) G t S k)) (nI k) = some (nI (drS (coS G ow T) G t S 4)) := by
  intro d
  induction d with
  | zero =>
    intro k n hk hn
    obtain ⟨n, rfl⟩ : ∃ z, n = z + 1 := ⟨n - 1, by omega⟩
    have hk : k = 4 := by omega
    subst hk
    rw [fX2_dearestPart_L5.eq_2, if_pos (by decide)]
  | succ d ih =>
    intro k n hk hn
    obtain ⟨n, rfl⟩ : ∃ z, n = z + 1 := ⟨n - 1, by omega⟩
    have e4 : ¬ (4 : Int32) ≤ nI k := nI_ge (b := 4) (by omega) (by omega)
    have hlt : S &&& G t k < 4096 := Nat.lt_of_le_of_lt Nat.and_le_left hS
    have b1 := co_B (G := G) ho (S &&& G t k)
    have b2 := dr_B (G := G) (t := t) (S := S) (co_B (G := G) ho) k
    have st := ih (k + 1) n (by omega) (by omega)
    rw [fX2_dearestPart_L5.eq_2, if_neg e4, ix4, gi_ok (by rw [nI_toInt (by omega)]; omega) (by rw [nI_toInt (by omega)]; omega), tn_nI (by omega), h.1 t k ht (by omega), nb_and, Nat.and_comm, gi_ok (by rw [nI_toInt (by omega)]; omega) (by rw [nI_toInt (by omega)]; omega), tn_nI (by omega), hc k (by omega), jmax_n (by omega) (by omega), nI_1]
    exact st
def enc : Option Nat → Int32
  | none => -1
  | some x => nI x
theorem nI_ne1 {y : Nat} (h : y < 2147483648) : ¬ nI y = (-1 : Int32) := fun z => (nI_pos (by omega) : ¬ nI y < 0) (by rw [z]; decide)
theorem en_s {c : Option Nat} {x : Nat} {w : Int32} (F : Int32 → Option Int32) (hc : ∀ y : Nat, c = some y → y < 2147483648) (hx : x < 2147483648) (hw : w = nI x) : (if enc c = -1 then F w else F (jmin (enc c) w)) = F (enc (some (mnS c x))) := by
  subst hw
  cases c with
  | none => exact if_pos (show (-1 : Int32) = -1 from rfl)
  | some y =>
    have h1 := hc y rfl
    show (if nI y = -1 then F (nI x) else F (jmin (nI y) (nI x))) = F (nI (mnS (some y) x))
    exact (if_neg (nI_ne1 h1)).trans (congrArg F (jmin_n h1 hx))
theorem cp_L {G : Nat → Nat → Nat} {ow : Nat → Nat} {T S : Nat} {v : Int32} (hN : 20 ≤ N) (h : LX X G ow T v) (hg : GG G) (t12 : T ≤ 12) (ho : ∀ t : Nat, t < T → ow t ≤ 99) (hS : S < 4096) (hc : ∀ t r : Nat, t < T → pt G t S → r < 4 → X.2 14 (S &&& G t r) = nI (coS G ow T (S &&& G t r))) : ∀ (d k n : Nat), k + d = T → d < n → fX2_costOfParting_L5 N X (nI S) v n (enc (clS (coS G ow T) G ow S k)) (nI k) = some (nI (coS G ow T S)) := by
  intro d
  induction d with
  | zero =>
    intro k n hk hn
    obtain ⟨n, rfl⟩ : ∃ z, n = z + 1 := ⟨n - 1, by omega⟩
    have hk : k = T := by omega
    subst hk
    rw [fX2_costOfParting_L5.eq_2, h.2.1, if_pos (nI_le (by omega) (by omega)), co_eq hS]
    cases e : clS (coS G ow k) G ow S k with
    | none =>
      show (if (-1 : Int32) = -1 then some (0 : Int32) else some (-1)) = some (nI 0)
      exact if_pos (show (-1 : Int32) = -1 from rfl)
    | some y =>
      have b1 := cl_B (co_B (G := G) ho) ho k y (Nat.le_refl _) e
      show (if nI y = -1 then some 0 else some (nI y)) = some (nI y)
      exact if_neg (nI_ne1 (by omega))
  | succ d ih =>
    intro k n hk hn
    obtain ⟨n, rfl⟩ : ∃ z, n = z + 1 := ⟨n - 1, by omega⟩
    have k12 : k < 12 := by omega
    have st := ih (k + 1) n (by omega) (by omega)
    rw [clS] at st
    rw [fX2_costOfParting_L5.eq_2, h.2.1, if_neg (nI_ge (by omega) (by omega)), ps_X hN h.1 hg k12 hS, nI_1]
    simp only [bd1]
    by_cases c : ptI G k S = 0
    · rw [if_pos c]
      rw [if_pos c] at st
      exact st
    · rw [if_neg c]
      rw [if_neg c] at st
      have dp : fX2_dearestPart N X (nI k) (nI S) = some (nI (drS (coS G ow T) G k S 4)) := dp_L (N := N) h hg ho k12 hS (fun r hr => hc k r (by omega) (pt_of c) hr) 4 0 N (by omega) (by omega)
      have b2 := dr_B (G := G) (t := k) (S := S) (co_B (G := G) ho) 4
      have b3 := ho k (by omega)
      have ok := h.2.2 k (by omega)
      have key : ∀ w : Int32, w = nI (ow k + drS (coS G ow T) G k S 4) → (if enc (clS (coS G ow T) G ow S k) = -1 then fX2_costOfParting_L5 N X (nI S) v n w (nI (k + 1)) else fX2_costOfParting_L5 N X (nI S) v n (jmin (enc (clS (coS G ow T) G ow S k)) w) (nI (k + 1))) = some (nI (coS G ow T S)) := fun w hw =>
        (en_s (fun a => fX2_costOfParting_L5 N X (nI S) v n a (nI (k + 1))) (fun y e => by
          have b1 := cl_B (co_B (G := G) ho) ho k y (by omega) e
          omega) (by omega) hw).trans st
      rw [gi_ok (by rw [nI_toInt (by omega)]; omega) (by rw [nI_toInt (by omega)]; omega), tn_nI (by omega), dp]
      simp only
      by_cases cv : v = 0
      · rw [if_pos cv] at ok ⊢
        exact key _ (by rw [ok, nI_add])
      · rw [if_neg cv] at ok ⊢
        exact key _ (by rw [ok, nI_add])
theorem cp_X {G : Nat → Nat → Nat} {ow : Nat → Nat} {T S : Nat} {v : Int32} (hN : 20 ≤ N) (h : LX X G ow T v) (hg : GG G) (t12 : T ≤ 12) (ho : ∀ t : Nat, t < T → ow t ≤ 99) (hS : S < 4096) (hc : ∀ t r : Nat, t < T → pt G t S → r < 4 → X.2 14 (S &&& G t r) = nI (coS G ow T (S &&& G t r))) : fX2_costOfParting N X (nI S) v = some (nI (coS G ow T S)) := cp_L hN h hg t12 ho hS hc T 0 N (by omega) (by omega)
/-- the two differ at most in the table of costs -/
def EX (σ X : St) : Prop := σ.1 = X.1 ∧ ∀ a : Nat, a ≠ 14 → σ.2 a = X.2 a
theorem lc_L {G : Nat → Nat → Nat} {ow : Nat → Nat} {T R : Nat} {v : Int32} (hN : 20 ≤ N) (hg : GG G) (t12 : T ≤ 12) (ho : ∀ t : Nat, t < T → ow t ≤ 99) (hR : R < 4096) (h14 : X.1 14 = nI R) : ∀ (d s c n : Nat) (σ : St), s + d = R → d < n → c ≤ s → s &&& R = s → EX σ X → LX σ G ow T v → (∀ A : Nat, A &&& R = A → A < s → σ.2 14 A = nI (coS G ow T A)) → ∃ σ', fX2_leastCost_L4 N v n (nI s) (nI c) σ = some (nI (coS G ow T R), σ') ∧ EX σ' X := by
  intro d
  induction d using Nat.strongRecOn with
  | ind d ih =>
    intro s c n σ hs hn hcs hsub hE hL hT
    obtain ⟨n, rfl⟩ : ∃ z, n = z + 1 := ⟨n - 1, by omega⟩
    have sub : ∀ t r : Nat, pt G t s → r < 4 → (s &&& G t r) &&& R = s &&& G t r ∧ s &&& G t r < s := by
      intro t r hpt hr
      have l := Nat.and_le_left (n := s) (m := G t r)
      have ne := hpt r hr
      refine ⟨?_, by omega⟩
      rw [Nat.and_assoc, Nat.and_comm (G t r) R, ← Nat.and_assoc, hsub]
    have cpS := cp_X (N := N) hN hL hg t12 ho (S := s) (by omega) (fun t r _ hpt hr => hT _ (sub t r hpt hr).1 (sub t r hpt hr).2)
    have e14 : σ.1 14 = nI R := by rw [hE.1, h14]
    rw [fX2_leastCost_L4.eq_2, e14]
    by_cases cs : s = R
    · rw [cs] at cpS ⊢
      rw [cpS]
      simp only [bd1]
      refine ⟨σ, ?_, hE⟩
      rw [if_pos trivial, ite_self]
    · have c1 : ¬ (4095 : Int32) ≤ nI c := nI_ge (b := 4095) (by omega) (by omega)
      have c2 : ¬ nI s = nI R := fun z => cs ((nI_eq (by omega) (by omega)).mp z)
      rw [if_neg c1, if_neg c2, cpS, nI_nxt (by omega) (by omega), nI_1]
      simp only [bd1]
      rw [gi_ok (by rw [nI_toInt (by omega)]; omega) (by rw [nI_toInt (by omega)]; omega), tn_nI (by omega)]
      obtain ⟨n1, n2⟩ := nxt 32 R s (by omega) hsub cs
      have n3 := Nat.and_le_right (n := 2 ^ 32 + s - R) (m := R)
      have n4 : ((2 ^ 32 + s - R) &&& R) &&& R = (2 ^ 32 + s - R) &&& R := by rw [Nat.and_assoc, Nat.and_self]
      generalize (2 ^ 32 + s - R) &&& R = q at n1 n2 n3 n4 ⊢
      refine ih (R - q) (by omega) q (c + 1) n _ (by omega) (by omega) (by omega) n4 ?_ (LX_st hL) ?_
      · exact ⟨hE.1, fun a ha => by rw [sA_ne ha]; exact hE.2 a ha⟩
      · intro A hA hl
        show upd (σ.2 14) s _ A = _
        by_cases ca : A = s
        · rw [ca, upd_eq]
        · rw [upd_ne ca]
          refine hT A hA ?_
          by_cases cc : s < A
          · have := n2 A hA cc
            omega
          · omega
theorem lc_X {G : Nat → Nat → Nat} {ow : Nat → Nat} {T R : Nat} {v : Int32} (hN : 5000 ≤ N) (hg : GG G) (t12 : T ≤ 12) (ho : ∀ t : Nat, t < T → ow t ≤ 99) (hR : R < 4096) (h14 : X.1 14 = nI R) (hL : LX X G ow T v) : ∃ σ', fX2_leastCost N X v = some (nI (coS G ow T R), σ') ∧ EX σ' X :=
  lc_L (N := N) (by omega) hg t12 ho hR h14 R 0 0 N X (by omega) (by omega) (by omega) (Nat.zero_and _) ⟨rfl, fun _ _ => rfl⟩ hL (fun A _ hl => absurd hl (by omega))
end
