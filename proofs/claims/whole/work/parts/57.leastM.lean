/-! the reference's least cost -/
section
variable {N : Nat} {X M σ : St}
def LM (σ : St) (G : Nat → Nat → Nat) (ow : Nat → Nat) (T F : Nat) (v : Int32) : Prop := GM σ G ∧ σ.1 11 = nI T ∧ σ.1 10 = nI F ∧ ∀ t : Nat, t < T → (if v = 0 then 1 else σ.2 10 t) = nI (ow t)
def EM (σ M : St) : Prop := σ.1 = M.1 ∧ ∀ a : Nat, a ≠ 12 → a ≠ 13 → σ.2 a = M.2 a
def IM (σ M : St) (G : Nat → Nat → Nat) (ow : Nat → Nat) (T F : Nat) (v : Int32) : Prop := LM σ G ow T F v ∧ EM σ M ∧ ∀ A : Nat, A < 4096 → ¬ σ.2 13 A = 0 → σ.2 12 A = nI (coS G ow T A)
theorem lt_L {G : Nat → Nat → Nat} {ow : Nat → Nat} {T F t S : Nat} {v w3 w4 : Int32} {Fn : St → Int32 → Int32 → Option (Int32 × St)} (hN : 20 ≤ N) (hg : GG G) (ho : ∀ t : Nat, t < T → ow t ≤ 99) (ht : t < 12) (h12 : F ≤ 12) (hS : S < 2 ^ F) (hS' : S < 4096) (hpt : pt G t S) (hFn : ∀ (A : Nat) (σ : St), A < 2 ^ F → A < 4096 → pc A 12 < pc S 12 → IM σ M G ow T F v → ∃ σ', Fn σ (nI A) v = some (nI (coS G ow T A), σ') ∧ IM σ' M G ow T F v) : ∀ (d k n : Nat) (σ : St), k + d = 4 → d < n → IM σ M G ow T F v → ∃ σ', fM_least_L49 N Fn (nI S) v w3 w4 (nI t) n (nI (drS (coS G ow T) G t S k)) (nI k) σ = some (nI (drS (coS G ow T) G t S 4), σ') ∧ IM σ' M G ow T F v := by
  intro d
  induction d with
  | zero =>
    intro k n σ hk hn hI
    obtain ⟨n, rfl⟩ : ∃ z, n = z + 1 := ⟨n - 1, by omega⟩
    have hk : k = 4 := by omega
    subst hk
    refine ⟨σ, ?_, hI⟩
    rw [fM_least_L49.eq_2, if_pos (by decide)]
  | succ d ih =>
    intro k n σ hk hn hI
    obtain ⟨n, rfl⟩ : ∃ z, n = z + 1 := ⟨n - 1, by omega⟩
    have e4 : ¬ (4 : Int32) ≤ nI k := nI_ge (b := 4) (by omega) (by omega)
    have hle := Nat.and_le_left (n := S) (m := G t k)
    have b1 := co_B (G := G) ho (S &&& G t k)
    have b2 := dr_B (G := G) (t := t) (S := S) (co_B (G := G) ho) k
    obtain ⟨l1, l2, l3, l4⟩ := id hI.1
    rw [fM_least_L49.eq_2, if_neg e4, lv_M hN l3 h12 ht hS hS' (fun f hf => l1 t k f ht (by omega) hf), nI_1]
    simp only [bd1]
    by_cases c0 : S &&& G t k = 0
    · rw [if_pos (show nI (S &&& G t k) = 0 by rw [c0]; rfl), if_pos (nI_pos' (by omega))]
      have st := ih (k + 1) n σ (by omega) (by omega) hI
      rw [drS, c0, co_0, Nat.max_eq_left (by omega)] at st
      exact st
    · rw [if_neg (nI_ne0 (by omega) (by omega))]
      obtain ⟨σ', r1, r2⟩ := hFn (S &&& G t k) σ (by omega) (by omega) (pc_less hS' (hpt k (by omega))) hI
      rw [r1]
      simp only [bd2]
      have st := ih (k + 1) n σ' (by omega) (by omega) r2
      rw [drS] at st
      by_cases c1 : coS G ow T (S &&& G t k) ≤ drS (coS G ow T) G t S k
      · rw [if_pos (nI_le c1 (by omega))]
        rw [Nat.max_eq_left c1] at st
        exact st
      · rw [if_neg (nI_ge (by omega) (by omega))]
        rw [Nat.max_eq_right (by omega)] at st
        exact st
def flg : Option Nat → Int32
  | none => 0
  | some _ => 1
theorem nar1 : vp_nar .boolean 1 = 1 := rfl
theorem nar0 : vp_nar .boolean 0 = 0 := rfl
theorem lt_24 {G : Nat → Nat → Nat} {ow : Nat → Nat} {T F S : Nat} {v : Int32} {Fn : St → Int32 → Int32 → Option (Int32 × St)} (hN : 20 ≤ N) (hg : GG G) (t12 : T ≤ 12) (ho : ∀ t : Nat, t < T → ow t ≤ 99) (h12 : F ≤ 12) (hS : S < 2 ^ F) (hS' : S < 4096) (hFn : ∀ (A : Nat) (σ : St), A < 2 ^ F → A < 4096 → pc A 12 < pc S 12 → IM σ M G ow T F v → ∃ σ', Fn σ (nI A) v = some (nI (coS G ow T A), σ') ∧ IM σ' M G ow T F v) : ∀ (d k n : Nat) (σ : St), k + d = T → d < n → IM σ M G ow T F v → ∃ σ', fM_least_L24 N Fn (nI S) v n (nI ((clS (coS G ow T) G ow S k).getD 0)) (flg (clS (coS G ow T) G ow S k)) (nI k) σ = some (nI (coS G ow T S), σ') ∧ IM σ' M G ow T F v := by
  intro d
  induction d with
  | zero =>
    intro k n σ hk hn hI
    obtain ⟨n, rfl⟩ : ∃ z, n = z + 1 := ⟨n - 1, by omega⟩
    have hk : k = T := by omega
    subst hk
    obtain ⟨⟨l1, l2, l3, l4⟩, ⟨m1, m2⟩, i3⟩ := id hI
    rw [fM_least_L24.eq_2, l2, if_pos (nI_le (by omega) (by omega)), gi_ok (by rw [nI_toInt (by omega)]; omega) (by rw [nI_toInt (by omega)]; omega), gi_ok (by rw [nI_toInt (by omega)]; omega) (by rw [nI_toInt (by omega)]; omega), tn_nI (by omega), nar1, ← co_eq hS']
    refine ⟨_, rfl, ⟨l1, l2, l3, l4⟩, ⟨m1, ?_⟩, ?_⟩
    · intro a h1 h2
      rw [sA_ne h1, sA_ne h2]
      exact m2 a h1 h2
    · intro A hA hz
      show upd (σ.2 12) S _ A = _
      by_cases ca : A = S
      · rw [ca, upd_eq]
      · rw [upd_ne ca]
        apply i3 A hA
        intro z
        apply hz
        show upd (σ.2 13) S _ A = 0
        rw [upd_ne ca, z]
  | succ d ih =>
    intro k n σ hk hn hI
    obtain ⟨n, rfl⟩ : ∃ z, n = z + 1 := ⟨n - 1, by omega⟩
    have k12 : k < 12 := by omega
    obtain ⟨l1, l2, l3, l4⟩ := id hI.1
    rw [fM_least_L24.eq_2, l2, if_neg (nI_ge (by omega) (by omega)), ps_M hN l1 hg l3 h12 k12 hS hS', nI_1]
    simp only [bd1]
    by_cases c : ptI G k S = 0
    · rw [if_pos c]
      have st := ih (k + 1) n σ (by omega) (by omega) hI
      rw [clS, if_pos c] at st
      exact st
    · rw [if_neg c]
      obtain ⟨σ', r1, r2⟩ := lt_L (N := N) (w3 := nI ((clS (coS G ow T) G ow S k).getD 0)) (w4 := flg (clS (coS G ow T) G ow S k)) hN hg ho k12 h12 hS hS' (pt_of c) hFn 4 0 N σ (by omega) (by omega) hI
      have r1' : fM_least_L49 N Fn (nI S) v (nI ((clS (coS G ow T) G ow S k).getD 0)) (flg (clS (coS G ow T) G ow S k)) (nI k) N 0 0 σ = _ := r1
      rw [r1']
      simp only [bd2]
      have st := ih (k + 1) n σ' (by omega) (by omega) r2
      rw [clS, if_neg c] at st
      have b2 := dr_B (G := G) (t := k) (S := S) (co_B (G := G) ho) 4
      have b3 := ho k (by omega)
      have ok := r2.1.2.2.2 k (by omega)
      rw [gi_ok (by rw [nI_toInt (by omega)]; omega) (by rw [nI_toInt (by omega)]; omega), tn_nI (by omega)]
      have key : ∀ z : Int32, z = nI (ow k) → ∃ σ'', (if flg (clS (coS G ow T) G ow S k) = 0 then fM_least_L24 N Fn (nI S) v n (nI (drS (coS G ow T) G k S 4) + z) 1 (nI (k + 1)) σ' else (if nI ((clS (coS G ow T) G ow S k).getD 0) ≤ nI (drS (coS G ow T) G k S 4) + z then fM_least_L24 N Fn (nI S) v n (nI ((clS (coS G ow T) G ow S k).getD 0)) 1 (nI (k + 1)) σ' else fM_least_L24 N Fn (nI S) v n (nI (drS (coS G ow T) G k S 4) + z) 1 (nI (k + 1)) σ')) = some (nI (coS G ow T S), σ'') ∧ IM σ'' M G ow T F v := by
        intro z hz
        rw [hz, nI_add, Nat.add_comm]
        cases e : clS (coS G ow T) G ow S k with
        | none =>
          rw [e] at st
          rw [if_pos (show flg none = 0 from rfl)]
          exact st
        | some y =>
          rw [e] at st
          have b1 := cl_B (co_B (G := G) ho) ho k y (by omega) e
          rw [if_neg (show ¬ flg (some y) = 0 by show ¬ (1 : Int32) = 0; decide)]
          show ∃ σ'', (if nI y ≤ nI (ow k + drS (coS G ow T) G k S 4) then fM_least_L24 N Fn (nI S) v n (nI y) 1 (nI (k + 1)) σ' else fM_least_L24 N Fn (nI S) v n (nI (ow k + drS (coS G ow T) G k S 4)) 1 (nI (k + 1)) σ') = some (nI (coS G ow T S), σ'') ∧ IM σ'' M G ow T F v
          have st' : ∃ σ'', fM_least_L24 N Fn (nI S) v n (nI (min y (ow k + drS (coS G ow T) G k S 4))) 1 (nI (k + 1)) σ' = some (nI (coS G ow T S), σ'') ∧ IM σ'' M G ow T F v := st
          by_cases c1 : y ≤ ow k + drS (coS G ow T) G k S 4
          · rw [if_pos (nI_le c1 (by omega))]
            rw [Nat.min_eq_left c1] at st'
            exact st'
          · rw [if_neg (nI_ge (by omega) (by omega))]
            rw [Nat.min_eq_right (by omega)] at st'
            exact st'
      by_cases cv : v = 0
      · rw [if_pos cv] at ok ⊢
        exact key 1 ok
      · rw [if_neg cv] at ok ⊢
        exact key _ ok
theorem ls_M {G : Nat → Nat → Nat} {ow : Nat → Nat} {T F : Nat} {v : Int32} (hN : 20 ≤ N) (hg : GG G) (t12 : T ≤ 12) (ho : ∀ t : Nat, t < T → ow t ≤ 99) (h12 : F ≤ 12) : ∀ (D S : Nat) (σ : St), S < 2 ^ F → S < 4096 → pc S 12 < D → IM σ M G ow T F v → ∃ σ', fM_least N D σ (nI S) v = some (nI (coS G ow T S), σ') ∧ IM σ' M G ow T F v := by
  intro D
  induction D with
  | zero => intro S σ _ _ h; omega
  | succ D ih =>
    intro S σ hS hS' hp hI
    rw [fM_least.eq_2, fM_leastB, gi_ok (by rw [nI_toInt (by omega)]; omega) (by rw [nI_toInt (by omega)]; omega), tn_nI (by omega), gi_ok (by rw [nI_toInt (by omega)]; omega) (by rw [nI_toInt (by omega)]; omega)]
    by_cases c : σ.2 13 S = 0
    · rw [if_pos c]
      exact lt_24 (N := N) hN hg t12 ho h12 hS hS' (fun A σ hA hA' hpA hIA => ih A σ hA hA' (by omega) hIA) T 0 N σ (by omega) (by omega) hI
    · rw [if_neg c]
      refine ⟨σ, ?_, hI⟩
      rw [hI.2.2 S hS' c]
theorem EM_rf : EM M M := ⟨rfl, fun _ _ _ => rfl⟩
theorem lf_L {G : Nat → Nat → Nat} {ow : Nat → Nat} {T F S : Nat} {v w : Int32} (hN : 20 ≤ N) (hv : v = if w = 3 then 1 else 0) (hg : GG G) (t12 : T ≤ 12) (ho : ∀ t : Nat, t < T → ow t ≤ 99) (h12 : F ≤ 12) (hL : LM M G ow T F v) (h14 : M.1 12 = nI S) (hS : S < 2 ^ F) (hS' : S < 4096) : ∀ (d i n : Nat) (σ : St), i + d = 4096 → d < n → EM σ M → (∀ A : Nat, A < i → σ.2 13 A = 0) → ∃ σ', fM_left_L34 N w n (nI i) σ = some (nI (coS G ow T S), σ') ∧ EM σ' M := by
  intro d
  induction d with
  | zero =>
    intro i n σ hi hn hE hz
    obtain ⟨n, rfl⟩ : ∃ z, n = z + 1 := ⟨n - 1, by omega⟩
    have hi : i = 4096 := by omega
    subst hi
    have hI : IM σ M G ow T F v := by
      obtain ⟨l1, l2, l3, l4⟩ := hL
      refine ⟨⟨?_, ?_, ?_, ?_⟩, hE, fun A hA hn => absurd (hz A hA) hn⟩
      · unfold GM at l1 ⊢
        rw [hE.2 11 (by decide) (by decide)]
        exact l1
      · rw [hE.1]; exact l2
      · rw [hE.1]; exact l3
      · rw [hE.2 10 (by decide) (by decide)]
        exact l4
    have hp := pc_le (S := S) 12
    obtain ⟨σ', r1, r2⟩ := ls_M (N := N) hN hg t12 ho h12 20 S σ hS hS' (by omega) hI
    have e14 : σ.1 12 = nI S := by rw [hE.1, h14]
    refine ⟨σ', ?_, r2.2.1⟩
    rw [fM_left_L34.eq_2, if_pos (by decide), e14]
    by_cases c : w = 3
    · rw [if_pos c] at hv ⊢
      subst hv
      rw [r1]
      rfl
    · rw [if_neg c] at hv ⊢
      subst hv
      rw [r1]
      rfl
  | succ d ih =>
    intro i n σ hi hn hE hz
    obtain ⟨n, rfl⟩ : ∃ z, n = z + 1 := ⟨n - 1, by omega⟩
    have c1 : ¬ (4096 : Int32) ≤ nI i := nI_ge (b := 4096) (by omega) (by omega)
    rw [fM_left_L34.eq_2, if_neg c1, gi_ok (by rw [nI_toInt (by omega)]; omega) (by rw [nI_toInt (by omega)]; omega), tn_nI (by omega), nar0, nI_1]
    refine ih (i + 1) n _ (by omega) (by omega) ⟨hE.1, fun a h1 h2 => by rw [sA_ne h2]; exact hE.2 a h1 h2⟩ ?_
    intro A hA
    show upd (σ.2 13) i 0 A = 0
    by_cases ca : A = i
    · rw [ca, upd_eq]
    · rw [upd_ne ca]
      exact hz A (by omega)
theorem Rel_EM {M' : St} (h : Rel X M) (d : EM M' M) : Rel X M' := by
  have e := d.1
  unfold Rel RD BD RT BT RB BB RF BF at h ⊢
  simp only [e, d.2 0 (by decide) (by decide), d.2 1 (by decide) (by decide), d.2 2 (by decide) (by decide), d.2 3 (by decide) (by decide), d.2 4 (by decide) (by decide), d.2 5 (by decide) (by decide), d.2 6 (by decide) (by decide), d.2 7 (by decide) (by decide), d.2 8 (by decide) (by decide), d.2 9 (by decide) (by decide), d.2 10 (by decide) (by decide), d.2 11 (by decide) (by decide)]
  exact h
theorem Rel_EX {X' : St} (h : Rel X M) (d : EX X' X) : Rel X' M := by
  have e := d.1
  have a1 : ∀ k : Nat, X'.2 (15 + 4 * k) = X.2 (15 + 4 * k) := fun k => d.2 _ (by omega)
  have a2 : ∀ k : Nat, X'.2 (16 + 4 * k) = X.2 (16 + 4 * k) := fun k => d.2 _ (by omega)
  have a3 : ∀ k : Nat, X'.2 (17 + 4 * k) = X.2 (17 + 4 * k) := fun k => d.2 _ (by omega)
  have a4 : ∀ k : Nat, X'.2 (18 + 4 * k) = X.2 (18 + 4 * k) := fun k => d.2 _ (by omega)
  unfold Rel RD BD RT BT TC RB BB RF BF at h ⊢
  simp only [e, d.2 0 (by decide), d.2 1 (by decide), d.2 2 (by decide), d.2 4 (by decide), d.2 5 (by decide), d.2 8 (by decide), d.2 9 (by decide), d.2 10 (by decide), d.2 11 (by decide), d.2 12 (by decide), d.2 13 (by decide), a1, a2, a3, a4]
  exact h
theorem left_23 {w v : Int32} (hN : 5000 ≤ N) (hw : 2 ≤ w) (hv : v = if w = 3 then 1 else 0) (h : Rel X M) : ∃ (r : Int32) (X' M' : St), fX2_leastCost N X v = some (r, X') ∧ fM_left_L34 N w N 0 M = some (r, M') ∧ Rel X' M' := by
  obtain ⟨hD, hT, hB, ⟨hRF, hBF⟩⟩ := id h
  obtain ⟨F, T, S, f1, f2, f3, f4, f5, f6, f7⟩ := flt_n hBF
  obtain ⟨g1, g2, g3⟩ := G_of hRF hBF
  obtain ⟨e0, e1, e2, e3, e4, e5, e6⟩ := id hRF
  obtain ⟨b0, b1, b2, b3, b4, b5⟩ := id hBF
  have pr : ∀ t : Nat, t < T → M.2 10 t = nI (M.2 10 t).toNatClampNeg ∧ (M.2 10 t).toNatClampNeg ≤ 99 := by
    intro t ht
    obtain ⟨p, p1, p2, p3⟩ := BIn (b4 t (by rw [f3, nI_toInt (by omega)]; omega)) (by omega)
    rw [p1, tn_nI (by omega)]
    exact ⟨rfl, by omega⟩
  have ho : ∀ t : Nat, t < T → (if v = 0 then 1 else (M.2 10 t).toNatClampNeg) ≤ 99 := by
    intro t ht
    split
    · omega
    · exact (pr t ht).2
  have hon : ∀ t : Nat, t < T → (if v = 0 then 1 else M.2 10 t) = nI (if v = 0 then 1 else (M.2 10 t).toNatClampNeg) := by
    intro t ht
    split
    · rfl
    · exact (pr t ht).1
  obtain ⟨X', x1, x2⟩ := lc_X (N := N) (ow := fun t => if v = 0 then 1 else (M.2 10 t).toNatClampNeg) hN g3 f4 ho f7 (e2.trans f5) ⟨g1, e1.trans f3, by rw [e4]; exact hon⟩
  obtain ⟨M', m1, m2⟩ := lf_L (N := N) (w := w) (ow := fun t => if v = 0 then 1 else (M.2 10 t).toNatClampNeg) (by omega) hv g3 f4 ho f2 ⟨g2, f3, f1, hon⟩ f5 f6 f7 4096 0 N M (by omega) (by omega) EM_rf (fun A hA => absurd hA (by omega))
  exact ⟨_, X', M', x1, m1, Rel_EM (Rel_EX h x2) m2⟩
theorem op_left (a : Int32) (hN : 5000 ≤ N) (h : Rel X M) : ∃ r X' M', fX6_left N X a = some (r, X') ∧ fM_left N M a = some (r, M') ∧ Rel X' M' := by
  obtain ⟨hD, hT, hB, ⟨hRF, hBF⟩⟩ := id h
  rcases within_cases N a 0 3 with ⟨w, v⟩ | ⟨w, v⟩
  · rcases i32_cases4 v with e | e | e | e
    · subst e
      refine ⟨M.1 12, X, M, ?_, ?_, h⟩
      · simp [fX6_left, fX2_leftBits, bd1, hRF.2.2.1]
      · simp [fM_left, w, bd1]
    · subst e
      obtain ⟨r, r1, r2⟩ := nb_XM (N := N) (by omega) hRF hBF
      refine ⟨r, X, M, ?_, ?_, h⟩
      · simp [fX6_left, bd1, r1]
      · simp [fM_left, w, bd1, r2]
    · subst e
      obtain ⟨r, X', M', x1, m1, hR⟩ := left_23 (N := N) (w := 2) (v := 0) hN (by decide) (by decide) h
      refine ⟨r, X', M', ?_, ?_, hR⟩
      · simp [fX6_left, bd1, bd2, x1]
      · simp [fM_left, w, bd1, m1]
    · subst e
      obtain ⟨r, X', M', x1, m1, hR⟩ := left_23 (N := N) (w := 3) (v := 1) hN (by decide) (by decide) h
      refine ⟨r, X', M', ?_, ?_, hR⟩
      · simp [fX6_left, bd1, bd2, x1]
      · simp [fM_left, w, bd1, m1]
  · simp only [Int32.reduceToInt] at v
    have n0 : ¬ a = 0 := fun z => by rw [z] at v; simp only [Int32.reduceToInt] at v; omega
    have n1 : ¬ a = 1 := fun z => by rw [z] at v; simp only [Int32.reduceToInt] at v; omega
    have n2 : ¬ a = 2 := fun z => by rw [z] at v; simp only [Int32.reduceToInt] at v; omega
    have n3 : ¬ a = 3 := fun z => by rw [z] at v; simp only [Int32.reduceToInt] at v; omega
    refine ⟨-1, X, M, ?_, ?_, h⟩
    · simp [fX6_left, n0, n1, n2, n3]
    · simp [fM_left, w, bd1]
end
