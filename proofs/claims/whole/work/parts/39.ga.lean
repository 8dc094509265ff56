/-! gather, whole; what the tally and the reference's numbers say of the list -/
section
variable {N : Nat} {M X σ : St}
theorem gaS {i j p ord : Nat} {m o : Int32} (hN : 100 ≤ N) (hRD : RD X M) (hB : BD M) (hm : BI m 20 900) (ho : BI o 1 3900) (hj : (j : Int) < (M.1 0).toInt) (hp1 : 1 ≤ p) (hp : p ≤ 5) (hor : M.1 3 = nI ord) (h1 : 1 ≤ ord) (h5 : ord ≤ 5) {s : St} (h : DX s X) {fq : Nat} (hf : (fq = 1 ∧ ¬ (j = i ∧ p = 1)) ∨ (fq = 2 ∧ j = i ∧ p = 1)) : fX1_gatherSums N s (nI j) (nI p) (nI fq) o m = some ((evP M i m o ord j p).foldl (stX M) s) := by
  have hj20 : j < 20 := by have := hB.1; unfold BI at this; omega
  have hjI : (nI j).toInt = (j : Int) := nI_toInt (by omega)
  have e0 : s.2 0 = M.2 0 := by rw [h.2 0 (by decide), hRD.2.1]
  have e3 : s.2 2 (3 : Int32).toNatClampNeg = M.1 4 := by rw [h.2 2 (by decide)]; exact hRD.2.2.2.2.2.2
  rw [fX1_gatherSums, gi_ok (by omega) (by omega), e0, e3, tn_nI (by omega)]
  rcases hf with ⟨rfl, hn⟩ | ⟨rfl, ej, ep⟩
  · exact ga24 hRD hB hm ho hj hp1 hp hor h5 ord 1 N s (by omega) (by omega) (by omega) (fun a b => absurd ⟨a, b⟩ hn) h
  · have e := ga24 (N := N) (i := i) hRD hB hm ho hj hp1 hp hor h5 (ord - 1) 2 N s (by omega) (by omega) (by omega) (fun _ _ => by omega) h
    rw [e]
    obtain ⟨d, rfl⟩ : ∃ d, ord = d + 1 := ⟨ord - 1, by omega⟩
    show _ = some ((evQ M i m o j p 1 ++ evR (evQ M i m o j p) d 2).foldl (stX M) s)
    have en : evQ M i m o j p 1 = [] := by
      unfold evQ flv
      simp [ej, ep]
    rw [en]
    rfl
theorem ga37 {i j ord : Nat} {m o : Int32} (hN : 100 ≤ N) (hi : i < 20) (hRD : RD X M) (hB : BD M) (hm : BI m 20 900) (ho : BI o 1 3900) (hj : (j : Int) < (M.1 0).toInt) (hor : M.1 3 = nI ord) (h1 : 1 ≤ ord) (h5 : ord ≤ 5) : ∀ (d p n : Nat) (s : St), p + d = ord + 1 → 1 ≤ p → d < n → DX s X → fX1_gather_L37 N (nI i) m o (nI j) n (nI p) s = some ((evR (evP M i m o ord j) d p).foldl (stX M) s) := by
  have hj20 : j < 20 := by have := hB.1; unfold BI at this; omega
  intro d
  induction d with
  | zero =>
    intro p n s hp hp1 hn h
    obtain ⟨n, rfl⟩ : ∃ z, n = z + 1 := ⟨n - 1, by omega⟩
    have e3 : s.2 2 (2 : Int32).toNatClampNeg = nI ord := by rw [h.2 2 (by decide)]; exact hRD.2.2.2.2.2.1.trans hor
    rw [fX1_gather_L37.eq_2, if_pos (by rw [e3]; exact nI_lt (by omega) (by omega))]
    rfl
  | succ d ih =>
    intro p n s hp hp1 hn h
    obtain ⟨n, rfl⟩ : ∃ z, n = z + 1 := ⟨n - 1, by omega⟩
    have e3 : s.2 2 (2 : Int32).toNatClampNeg = nI ord := by rw [h.2 2 (by decide)]; exact hRD.2.2.2.2.2.1.trans hor
    have ej : (nI j = nI i) ↔ j = i := nI_eq (by omega) (by omega)
    have ep : (nI p = 1) ↔ p = 1 := nI_eq (b := 1) (by omega) (by decide)
    rw [fX1_gather_L37.eq_2, if_neg (by rw [e3]; exact nI_nlt (by omega) (by omega)), nI_1]
    show _ = some ((evP M i m o ord j p ++ evR (evP M i m o ord j) d (p + 1)).foldl (stX M) s)
    rw [List.foldl_append]
    have g1 : ¬ (j = i ∧ p = 1) → fX1_gatherSums N s (nI j) (nI p) 1 o m = some ((evP M i m o ord j p).foldl (stX M) s) := fun z => gaS (fq := 1) hN hRD hB hm ho hj hp1 (by omega) hor h1 h5 h (Or.inl ⟨rfl, z⟩)
    have g2 : j = i → p = 1 → fX1_gatherSums N s (nI j) (nI p) 2 o m = some ((evP M i m o ord j p).foldl (stX M) s) := fun a b => gaS (fq := 2) hN hRD hB hm ho hj hp1 (by omega) hor h1 h5 h (Or.inr ⟨rfl, a, b⟩)
    by_cases c1 : j = i
    · rw [if_pos (ej.mpr c1)]
      by_cases c2 : p = 1
      · rw [if_pos (ep.mpr c2), g2 c1 c2]
        exact ih (p + 1) n _ (by omega) (by omega) (by omega) (DX_fold _ _ h)
      · rw [if_neg (fun z => c2 (ep.mp z)), g1 (fun z => c2 z.2)]
        exact ih (p + 1) n _ (by omega) (by omega) (by omega) (DX_fold _ _ h)
    · rw [if_neg (fun z => c1 (ej.mp z)), g1 (fun z => c1 z.1)]
      exact ih (p + 1) n _ (by omega) (by omega) (by omega) (DX_fold _ _ h)
theorem ga25 {i ord ns : Nat} {m o : Int32} (hN : 100 ≤ N) (hi : i < 20) (hRD : RD X M) (hB : BD M) (hm : BI m 20 900) (ho : BI o 1 3900) (hor : M.1 3 = nI ord) (h1 : 1 ≤ ord) (h5 : ord ≤ 5) (hs : M.1 0 = nI ns) (h20 : ns ≤ 20) : ∀ (d j n : Nat) (s : St), j + d = ns → d < n → DX s X → fX1_gather_L25 N (nI i) m o n (nI j) s = some ((evR (evJ M i m o ord) d j).foldl (stX M) s) := by
  intro d
  induction d with
  | zero =>
    intro j n s hj hn h
    obtain ⟨n, rfl⟩ : ∃ z, n = z + 1 := ⟨n - 1, by omega⟩
    rw [fX1_gather_L25.eq_2, if_pos (by rw [h.1 0 (Or.inl rfl), hRD.1, hs]; exact nI_le (by omega) (by omega))]
    rfl
  | succ d ih =>
    intro j n s hj hn h
    obtain ⟨n, rfl⟩ : ∃ z, n = z + 1 := ⟨n - 1, by omega⟩
    have e := ga37 (N := N) (i := i) (j := j) hN hi hRD hB hm ho (by rw [hs, nI_toInt (by omega)]; omega) hor h1 h5 ord 1 N s (by omega) (by omega) (by omega) h
    have e' : fX1_gather_L37 N (nI i) m o (nI j) N 1 s = _ := e
    rw [fX1_gather_L25.eq_2, if_neg (by rw [h.1 0 (Or.inl rfl), hRD.1, hs]; exact nI_ge (by omega) (by omega)), nI_1, e']
    show _ = some ((evJ M i m o ord j ++ evR (evJ M i m o ord) d (j + 1)).foldl (stX M) s)
    rw [List.foldl_append]
    exact ih (j + 1) n _ (by omega) (by omega) (DX_fold _ _ h)
def bgS (X : St) (w : Int32) : St := s1 (s1 (s1 (s1 (s1 X 1 w) 2 0) 3 0) 4 (-1)) 5 (-1)
theorem DX_bg {w : Int32} : DX (bgS X w) X := DX_s1 (DX_s1 (DX_s1 (DX_s1 (DX_s1 ⟨fun _ _ => rfl, fun _ _ => rfl⟩ (by decide) (by decide)) (by decide) (by decide)) (by decide) (by decide)) (by decide) (by decide)) (by decide) (by decide)
theorem osc_X (hRD : RD X M) (h : DX σ X) {i : Nat} (hi : i < 20) (m : Int32) : fX1_oscillatorFor N σ (nI i) m = some (oscS M i m) := by
  have hI : (nI i).toInt = (i : Int) := nI_toInt (by omega)
  have g : ∀ x : Option Int32, gi (nI i) 20 x = x := fun x => gi_ok (by omega) (by omega)
  have e : σ.2 2 (1 : Int32).toNatClampNeg = M.1 2 := by rw [h.2 2 (by decide)]; exact hRD.2.2.2.2.1
  have e0 : σ.2 0 = M.2 0 := by rw [h.2 0 (by decide), hRD.2.1]
  unfold fX1_oscillatorFor fX1_isOver oscS
  rw [e, e0, tn_nI (by omega)]
  by_cases c : M.1 2 = 1
  · rw [if_pos c, if_pos c]
    simp [bd1, g]
  · rw [if_neg c, if_neg c]
    simp [bd1, g]
theorem ev_no {i ord : Nat} {m o : Int32} (ho : ¬ 0 < o) (n : Nat) : ev M i m o ord n = [] := by
  have h1 : ∀ j p q, evQ M i m o j p q = [] := fun j p q => by
    unfold evQ flv
    simp [ho]
  have h2 : ∀ j p, evP M i m o ord j p = [] := fun j p => evR_nil _ _ (fun z _ _ => h1 j p z)
  have h3 : ∀ j, evJ M i m o ord j = [] := fun j => evR_nil _ _ (fun z _ _ => h2 j z)
  exact evR_nil _ _ (fun z _ _ => h3 z)
theorem osc_B {i : Nat} {m : Int32} (hB : BD M) (hm : BI m 20 900) (hi : (i : Int) < (M.1 0).toInt) : BI (oscS M i m) (-900) 3900 := by
  have hf := (hB.2.1 i hi).1
  unfold oscS
  unfold BI at *
  split
  · rw [i32_add (by omega) (by omega)]; omega
  · rw [i32_sub (by omega) (by omega)]; omega
theorem gaX (w : Int32) {i ord ns : Nat} {m : Int32} (hN : 100 ≤ N) (hRD : RD X M) (hB : BD M) (hm : BI m 20 900) (hor : M.1 3 = nI ord) (h1 : 1 ≤ ord) (h5 : ord ≤ 5) (hs : M.1 0 = nI ns) (h20 : ns ≤ 20) (hi : i < ns) : fX1_gather N X (nI i) m w = some ((ev M i m (oscS M i m) ord ns).foldl (stX M) (bgS X w)) := by
  have hb : fX4_begin N X w = some (bgS X w) := rfl
  have eo : fX1_oscillatorFor N (bgS X w) (nI i) m = some (oscS M i m) := osc_X hRD DX_bg (by omega) m
  have hoB := osc_B (i := i) hB hm (by rw [hs, nI_toInt (by omega)]; omega)
  rw [fX1_gather, hb]
  simp only [bd1, eo]
  by_cases c : 0 < oscS M i m
  · rw [if_pos c]
    have hl := Int32.lt_iff_toInt_lt.mp c
    simp only [Int32.reduceToInt] at hl
    exact ga25 hN (by omega) hRD hB hm (by unfold BI at hoB ⊢; omega) hor h1 h5 hs h20 ns 0 N (bgS X w) (by omega) (by omega) DX_bg
  · rw [if_neg c, ev_no c]
    rfl
theorem evR_mem {g : Nat → List E4} {e : E4} : ∀ (d k : Nat), e ∈ evR g d k → ∃ z, k ≤ z ∧ z < k + d ∧ e ∈ g z := by
  intro d
  induction d with
  | zero => intro k h; cases h
  | succ d ih =>
    intro k h
    rcases List.mem_append.mp h with h | h
    · exact ⟨k, by omega, by omega, h⟩
    · obtain ⟨z, h1, h2, h3⟩ := ih (k + 1) h
      exact ⟨z, by omega, by omega, h3⟩
theorem ev_mem {i ord ns : Nat} {m o : Int32} {e : E4} (h : e ∈ ev M i m o ord ns) : ∃ j p q : Nat, j < ns ∧ 1 ≤ p ∧ p ≤ ord ∧ 1 ≤ q ∧ q ≤ ord ∧ e.1 = nI j ∧ e.2.1 = nI p ∧ e.2.2.1 = nI q := by
  obtain ⟨j, _, hj, h⟩ := evR_mem _ _ h
  obtain ⟨p, hp1, hp, h⟩ := evR_mem _ _ h
  obtain ⟨q, hq1, hq, h⟩ := evR_mem _ _ h
  refine ⟨j, p, q, by omega, hp1, by omega, hq1, by omega, ?_⟩
  unfold evQ at h
  rcases List.mem_append.mp h with h | h
  · split at h
    · rw [List.mem_singleton.mp h]
      exact ⟨rfl, rfl, rfl⟩
    · cases h
  · split at h
    · rw [List.mem_singleton.mp h]
      exact ⟨rfl, rfl, rfl⟩
    · cases h
theorem evR_len {g : Nat → List E4} {c : Nat} (hg : ∀ z, (g z).length ≤ c) : ∀ (d k : Nat), (evR g d k).length ≤ d * c := by
  intro d
  induction d with
  | zero => intro k; exact Nat.zero_le _
  | succ d ih =>
    intro k
    show (g k ++ evR g d (k + 1)).length ≤ _
    rw [List.length_append, Nat.succ_mul]
    have := hg k
    have := ih (k + 1)
    omega
theorem ev_len {i ord ns : Nat} {m o : Int32} (h5 : ord ≤ 5) (h20 : ns ≤ 20) : (ev M i m o ord ns).length ≤ 1000 := by
  have h1 : ∀ j p q, (evQ M i m o j p q).length ≤ 2 := fun j p q => by
    unfold evQ
    rw [List.length_append]
    split <;> split <;> simp
  have h2 : ∀ j p, (evP M i m o ord j p).length ≤ 10 := fun j p => Nat.le_trans (evR_len (h1 j p) ord 1) (by omega)
  have h3 : ∀ j, (evJ M i m o ord j).length ≤ 50 := fun j => Nat.le_trans (evR_len (h2 j) ord 1) (by omega)
  exact Nat.le_trans (evR_len h3 ns 0) (by omega)
end
