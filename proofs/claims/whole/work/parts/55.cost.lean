/-! subsets in their order, and what it costs to part a set -/
section
theorem and_bin {a b c d : Nat} (hb : b < 2) (hd : d < 2) : (2 * a + b) &&& (2 * c + d) = 2 * (a &&& c) + (if b = 1 ∧ d = 1 then 1 else 0) := by
  have h1 : ((2 * a + b) &&& (2 * c + d)) / 2 = a &&& c := by
    rw [Nat.and_div_two, show (2 * a + b) / 2 = a by omega, show (2 * c + d) / 2 = c by omega]
  have h2 : ((2 * a + b) &&& (2 * c + d)) % 2 = (if b = 1 ∧ d = 1 then 1 else 0) := by
    have h3 : ((2 * a + b) &&& (2 * c + d)) % 2 = 1 ↔ (b = 1 ∧ d = 1) := by
      rw [Nat.and_mod_two_eq_one, show (2 * a + b) % 2 = b by omega, show (2 * c + d) % 2 = d by omega]
    by_cases c : b = 1 ∧ d = 1
    · rw [if_pos c]; exact h3.mpr c
    · rw [if_neg c]
      have : ¬ _ := fun z => c (h3.mp z)
      omega
  omega
theorem sub_bin {a b c d : Nat} (hb : b < 2) (hd : d < 2) (h : (2 * a + b) &&& (2 * c + d) = 2 * a + b) : a &&& c = a ∧ b ≤ d := by
  rw [and_bin hb hd] at h
  by_cases z : b = 1 ∧ d = 1
  · rw [if_pos z] at h; omega
  · rw [if_neg z] at h; omega
theorem bin (x : Nat) : ∃ a b : Nat, b < 2 ∧ x = 2 * a + b := ⟨x / 2, x % 2, by omega, by omega⟩
theorem comp : ∀ (w r s : Nat), r < 2 ^ w → s &&& r = s → (2 ^ w - 1 - (r - s)) &&& r = s := by
  intro w
  induction w with
  | zero =>
    intro r s hr hs
    have : r = 0 := by
      rw [Nat.pow_zero] at hr
      omega
    subst this
    rw [Nat.and_zero] at hs ⊢
    exact hs
  | succ w ih =>
    intro r s hr hs
    obtain ⟨r', a, ha, rfl⟩ := bin r
    obtain ⟨s', b, hb, rfl⟩ := bin s
    obtain ⟨h1, h2⟩ := sub_bin hb ha hs
    rw [Nat.pow_succ] at hr ⊢
    have h3 : s' ≤ r' := by
      have := Nat.and_le_right (n := s') (m := r')
      omega
    have e : 2 ^ w * 2 - 1 - (2 * r' + a - (2 * s' + b)) = 2 * (2 ^ w - 1 - (r' - s')) + (1 - (a - b)) := by omega
    rw [e, and_bin (by omega) ha, ih r' s' (by omega) h1]
    by_cases z : 1 - (a - b) = 1 ∧ a = 1
    · rw [if_pos z]; omega
    · rw [if_neg z]; omega
theorem nxt : ∀ (w r s : Nat), r < 2 ^ w → s &&& r = s → s ≠ r → s < (2 ^ w + s - r) &&& r ∧ ∀ A : Nat, A &&& r = A → s < A → (2 ^ w + s - r) &&& r ≤ A := by
  intro w
  induction w with
  | zero =>
    intro r s hr hs hn
    have : r = 0 := by
      rw [Nat.pow_zero] at hr
      omega
    subst this
    rw [Nat.and_zero] at hs
    exact absurd hs.symm hn
  | succ w ih =>
    intro r s hr hs hn
    obtain ⟨r', a, ha, rfl⟩ := bin r
    obtain ⟨s', b, hb, rfl⟩ := bin s
    obtain ⟨h1, h2⟩ := sub_bin hb ha hs
    rw [Nat.pow_succ] at hr ⊢
    have h3 : s' ≤ r' := by
      have := Nat.and_le_right (n := s') (m := r')
      omega
    by_cases c : b = a
    · subst c
      have e : 2 ^ w * 2 + (2 * s' + b) - (2 * r' + b) = 2 * (2 ^ w + s' - r') + 0 := by omega
      rw [e, and_bin (by omega) ha, if_neg (by omega)]
      obtain ⟨i1, i2⟩ := ih r' s' (by omega) h1 (by omega)
      refine ⟨by omega, ?_⟩
      intro A hA hl
      obtain ⟨A', z, hz, rfl⟩ := bin A
      obtain ⟨j1, j2⟩ := sub_bin hz ha hA
      have := i2 A' j1 (by omega)
      omega
    · have hb0 : b = 0 := by omega
      have ha1 : a = 1 := by omega
      subst hb0
      subst ha1
      have e : 2 ^ w * 2 + (2 * s' + 0) - (2 * r' + 1) = 2 * (2 ^ w - 1 - (r' - s')) + 1 := by omega
      rw [e, and_bin (by omega) ha, if_pos ⟨rfl, rfl⟩, comp w r' s' (by omega) h1]
      exact ⟨by omega, fun A _ hl => by omega⟩
theorem nI_wrap (s : Nat) : nI (4294967296 + s) = nI s := by
  apply Int32.toBitVec_inj.1
  show BitVec.ofNat 32 (4294967296 + s) = BitVec.ofNat 32 s
  apply BitVec.eq_of_toNat_eq
  rw [BitVec.toNat_ofNat, BitVec.toNat_ofNat]
  omega
theorem nI_nxt {s r : Nat} (h : s ≤ r) (hr : r < 4294967296) : (nI s - nI r) &&& nI r = nI ((2 ^ 32 + s - r) &&& r) := by
  have e : nI s = nI (2 ^ 32 + s - r) + nI r := by
    rw [nI_add, show 2 ^ 32 + s - r + r = 4294967296 + s by omega, nI_wrap]
  rw [e, Int32.add_sub_cancel, nb_and]
theorem pc_mono (A g : Nat) : ∀ k : Nat, pc (A &&& g) k ≤ pc A k
  | 0 => Nat.le_refl _
  | k + 1 => by
    have := pc_mono A g k
    show pc (A &&& g) k + _ ≤ pc A k + _
    rw [Nat.testBit_and]
    cases A.testBit k <;> cases g.testBit k <;> simp <;> omega
theorem pc_lt {A g f : Nat} (h1 : A.testBit f = true) (h2 : ¬ g.testBit f = true) : ∀ k : Nat, f < k → pc (A &&& g) k < pc A k := by
  intro k
  induction k with
  | zero => intro h; omega
  | succ k ih =>
    intro h
    show pc (A &&& g) k + _ < pc A k + _
    have m := pc_mono A g k
    rw [Nat.testBit_and]
    by_cases c : f = k
    · subst c
      simp [h1, h2]
      omega
    · have := ih (by omega)
      cases A.testBit k <;> cases g.testBit k <;> simp <;> omega
theorem pc_less {A g : Nat} (hA : A < 4096) (h : ¬ A &&& g = A) : pc (A &&& g) 12 < pc A 12 := by
  by_cases c : ∃ f : Nat, A.testBit f = true ∧ ¬ g.testBit f = true
  · obtain ⟨f, h1, h2⟩ := c
    exact pc_lt h1 h2 12 (bit_lt (k := 12) hA h1)
  · exfalso
    apply h
    apply and_all.mpr
    intro f hf
    by_cases c2 : g.testBit f = true
    · exact c2
    · exact absurd ⟨f, hf, c2⟩ c
def drS (cs : Nat → Nat) (G : Nat → Nat → Nat) (t S : Nat) : Nat → Nat
  | 0 => 0
  | k + 1 => max (drS cs G t S k) (cs (S &&& G t k))
def mnS (o : Option Nat) (x : Nat) : Nat := match o with
  | none => x
  | some b => min b x
def clS (cs : Nat → Nat) (G : Nat → Nat → Nat) (ow : Nat → Nat) (S : Nat) : Nat → Option Nat
  | 0 => none
  | k + 1 => if ptI G k S = 0 then clS cs G ow S k else some (mnS (clS cs G ow S k) (ow k + drS cs G k S 4))
def cfS (G : Nat → Nat → Nat) (ow : Nat → Nat) (T : Nat) : Nat → Nat → Nat
  | 0, _ => 0
  | D + 1, S => (clS (cfS G ow T D) G ow S T).getD 0
theorem dr_cong {cs cs' : Nat → Nat} {G : Nat → Nat → Nat} {t S : Nat} (h : ∀ r : Nat, r < 4 → cs (S &&& G t r) = cs' (S &&& G t r)) : ∀ k : Nat, k ≤ 4 → drS cs G t S k = drS cs' G t S k := by
  intro k
  induction k with
  | zero => intro _; rfl
  | succ k ih =>
    intro hk
    show max _ _ = max _ _
    rw [ih (by omega), h k (by omega)]
theorem pt_of {G : Nat → Nat → Nat} {t S : Nat} (h : ¬ ptI G t S = 0) : pt G t S := by
  intro r hr z
  apply h
  apply pt_neg
  intro y
  exact y r hr z
theorem cl_cong {cs cs' : Nat → Nat} {G : Nat → Nat → Nat} {ow : Nat → Nat} {S : Nat} (h : ∀ t r : Nat, pt G t S → r < 4 → cs (S &&& G t r) = cs' (S &&& G t r)) : ∀ k : Nat, clS cs G ow S k = clS cs' G ow S k := by
  intro k
  induction k with
  | zero => rfl
  | succ k ih =>
    unfold clS
    rw [ih]
    by_cases c : ptI G k S = 0
    · rw [if_pos c, if_pos c]
    · rw [if_neg c, if_neg c, dr_cong (fun r hr => h k r (pt_of c) hr) 4 (by omega)]
theorem cl_0 {cs : Nat → Nat} {G : Nat → Nat → Nat} {ow : Nat → Nat} : ∀ k : Nat, clS cs G ow 0 k = none
  | 0 => rfl
  | k + 1 => by
    unfold clS
    rw [if_pos (pt_neg (fun z => z 0 (by omega) (Nat.zero_and _)))]
    exact cl_0 k
theorem pc_0 {S : Nat} (h : S < 4096) (h0 : pc S 12 = 0) : S = 0 := by
  by_cases c : S = 0
  · exact c
  · obtain ⟨f, hf⟩ := ex_bit c
    have : ¬ S &&& 0 = S := by
      rw [Nat.and_zero]
      exact fun z => c z.symm
    have := pc_less h this
    omega
theorem cf_st {G : Nat → Nat → Nat} {ow : Nat → Nat} {T : Nat} : ∀ (D S : Nat), S < 4096 → pc S 12 ≤ D → cfS G ow T D S = cfS G ow T (D + 1) S := by
  intro D
  induction D with
  | zero =>
    intro S hS hp
    have : S = 0 := pc_0 hS (by omega)
    subst this
    show 0 = (clS _ G ow 0 T).getD 0
    rw [cl_0]
    rfl
  | succ D ih =>
    intro S hS hp
    show (clS (cfS G ow T D) G ow S T).getD 0 = (clS (cfS G ow T (D + 1)) G ow S T).getD 0
    rw [cl_cong]
    intro t r hpt hr
    have := pc_less hS (hpt r hr)
    exact ih _ (Nat.lt_of_le_of_lt Nat.and_le_left hS) (by omega)
def coS (G : Nat → Nat → Nat) (ow : Nat → Nat) (T S : Nat) : Nat := cfS G ow T 12 S
theorem co_eq {G : Nat → Nat → Nat} {ow : Nat → Nat} {T S : Nat} (hS : S < 4096) : coS G ow T S = (clS (coS G ow T) G ow S T).getD 0 := by
  have h12 := pc_le (S := S) 12
  show (clS (cfS G ow T 11) G ow S T).getD 0 = _
  rw [cl_cong]
  intro t r hpt hr
  have := pc_less hS (hpt r hr)
  exact cf_st 11 _ (Nat.lt_of_le_of_lt Nat.and_le_left hS) (by omega)
theorem co_0 {G : Nat → Nat → Nat} {ow : Nat → Nat} {T : Nat} : coS G ow T 0 = 0 := by
  rw [co_eq (by omega), cl_0]
  rfl
theorem dr_B {cs : Nat → Nat} {G : Nat → Nat → Nat} {t S b : Nat} (h : ∀ A : Nat, cs A ≤ b) : ∀ k : Nat, drS cs G t S k ≤ b
  | 0 => Nat.zero_le _
  | k + 1 => by
    show max _ _ ≤ b
    have h1 := dr_B (G := G) (t := t) (S := S) h k
    have h2 := h (S &&& G t k)
    omega
theorem cl_B {cs : Nat → Nat} {G : Nat → Nat → Nat} {ow : Nat → Nat} {S b T : Nat} (h : ∀ A : Nat, cs A ≤ b) (ho : ∀ t : Nat, t < T → ow t ≤ 99) : ∀ (k x : Nat), k ≤ T → clS cs G ow S k = some x → x ≤ b + 99 := by
  intro k
  induction k with
  | zero => intro x _ hx; cases hx
  | succ k ih =>
    intro x hk hx
    unfold clS at hx
    by_cases c : ptI G k S = 0
    · rw [if_pos c] at hx
      exact ih x (by omega) hx
    · rw [if_neg c] at hx
      have h1 := dr_B (G := G) (t := k) (S := S) h 4
      have h2 := ho k (by omega)
      cases e : clS cs G ow S k with
      | none =>
        rw [e] at hx
        cases hx
        show ow k + drS cs G k S 4 ≤ _
        omega
      | some y =>
        rw [e] at hx
        cases hx
        show min y (ow k + drS cs G k S 4) ≤ _
        omega
theorem cf_B {G : Nat → Nat → Nat} {ow : Nat → Nat} {T : Nat} (ho : ∀ t : Nat, t < T → ow t ≤ 99) : ∀ (D S : Nat), cfS G ow T D S ≤ 99 * D
  | 0, _ => Nat.zero_le _
  | D + 1, S => by
    show (clS (cfS G ow T D) G ow S T).getD 0 ≤ _
    cases e : clS (cfS G ow T D) G ow S T with
    | none => exact Nat.zero_le _
    | some y =>
      have := cl_B (cf_B ho D) ho T y (Nat.le_refl _) e
      show y ≤ _
      omega
theorem co_B {G : Nat → Nat → Nat} {ow : Nat → Nat} {T : Nat} (ho : ∀ t : Nat, t < T → ow t ≤ 99) (S : Nat) : coS G ow T S ≤ 1188 := cf_B ho 12 S
end
