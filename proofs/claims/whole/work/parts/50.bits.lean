/-! bits -/
section
theorem nb_and (a b : Nat) : nI a &&& nI b = nI (a &&& b) := by
  apply Int32.toBitVec_inj.1
  show (BitVec.ofNat 32 a) &&& (BitVec.ofNat 32 b) = BitVec.ofNat 32 (a &&& b)
  apply BitVec.eq_of_getLsbD_eq
  intro i hi
  simp [hi]
theorem nb_or (a b : Nat) : nI a ||| nI b = nI (a ||| b) := by
  apply Int32.toBitVec_inj.1
  show (BitVec.ofNat 32 a) ||| (BitVec.ofNat 32 b) = BitVec.ofNat 32 (a ||| b)
  apply BitVec.eq_of_getLsbD_eq
  intro i hi
  simp [hi]
theorem nb_shl0 : ∀ f : Fin 13, (1 : Int32) <<< (nI f.val &&& 31) = nI (2 ^ f.val) := by decide +kernel
theorem nb_shl {f : Nat} (h : f < 13) : (1 : Int32) <<< (nI f &&& 31) = nI (2 ^ f) := nb_shl0 ⟨f, h⟩
theorem nb_sm0 : ∀ f : Fin 13, ((nI f.val &&& 31).toBitVec.smod 32).toNat = f.val := by decide +kernel
theorem nb_bit {S f : Nat} (hS : S < 2147483648) (hf : f < 13) : (nI S >>> (nI f &&& 31)) &&& 1 = if S.testBit f = true then 1 else 0 := by
  rw [pk_shrN (by omega) _ f (nb_sm0 ⟨f, hf⟩), pk_andN (Nat.lt_of_le_of_lt (Nat.div_le_self _ _) (by omega)) 1 (by decide), Nat.testBit_eq_decide_div_mod_eq]
  rcases Nat.mod_two_eq_zero_or_one (S / 2 ^ f) with h | h
  · simp [h]; rfl
  · simp [h]; rfl
theorem nb_bit1 {S f : Nat} (hS : S < 2147483648) (hf : f < 13) : ((nI S >>> (nI f &&& 31)) &&& 1 = 1) ↔ S.testBit f = true := by
  rw [nb_bit hS hf]
  split
  · simp_all
  · rename_i h
    exact ⟨fun z => absurd z (by decide), fun z => absurd z h⟩
def pc (S : Nat) : Nat → Nat
  | 0 => 0
  | k + 1 => pc S k + (if S.testBit k = true then 1 else 0)
theorem pc_le {S : Nat} : ∀ k : Nat, pc S k ≤ k
  | 0 => Nat.le_refl _
  | k + 1 => by
    have := pc_le (S := S) k
    show pc S k + _ ≤ k + 1
    split <;> omega
theorem bc0 : ∀ a b : Fin 64, fJ6_bitCount_0f7a4 0 (nI (64 * a.val + b.val)) = some (nI (pc (64 * a.val + b.val) 12)) := by decide +kernel
theorem bc_X (N : Nat) {S : Nat} (h : S < 4096) : fJ6_bitCount_0f7a4 N (nI S) = some (nI (pc S 12)) := by
  have := bc0 ⟨S / 64, by omega⟩ ⟨S % 64, by omega⟩
  simp only [Nat.div_add_mod] at this
  exact this
theorem bo_L {N S : Nat} (hS : S < 4096) : ∀ (d k n : Nat), k + d = 12 → d < n → fM_bitsOf_L4 N (nI S) n (nI (pc S k)) (nI k) = some (nI (pc S 12)) := by
  intro d
  induction d with
  | zero =>
    intro k n hk hn
    obtain ⟨n, rfl⟩ : ∃ z, n = z + 1 := ⟨n - 1, by omega⟩
    have hk : k = 12 := by omega
    subst hk
    rw [fM_bitsOf_L4.eq_2, if_pos (by decide)]
  | succ d ih =>
    intro k n hk hn
    obtain ⟨n, rfl⟩ : ∃ z, n = z + 1 := ⟨n - 1, by omega⟩
    rw [fM_bitsOf_L4.eq_2, if_neg (show ¬ (12 : Int32) ≤ nI k from nI_ge (b := 12) (by omega) (by omega)), nb_bit (by omega) (by omega), nI_1]
    have e : nI (pc S k) + (if S.testBit k = true then 1 else 0) = nI (pc S (k + 1)) := by
      show _ = nI (pc S k + _)
      split
      · exact nI_1 _
      · show nI (pc S k) + nI 0 = _
        rw [nI_add]
    rw [e]
    exact ih (k + 1) n (by omega) (by omega)
theorem bo_M {N S : Nat} (hN : 20 ≤ N) (hS : S < 4096) : fM_bitsOf N (nI S) = some (nI (pc S 12)) := bo_L hS 12 0 N (by omega) (by omega)
end
