/-! spurs as a list; the reference's walk over them -/
section
variable {N : Nat} {M σ : St}
abbrev E4 : Type := Int32 × Int32 × Int32 × Int32
def smv (M : St) (o : Int32) (j p q : Nat) (h : Bool) : Int32 := if h = true then nI p * M.2 0 j + nI q * o else nI p * M.2 0 j - nI q * o
def flv (M : St) (i : Nat) (m o : Int32) (j p q : Nat) (h : Bool) : Bool := decide (0 < o) && (!(decide (j = i) && decide (p = 1) && decide (q = 1)) && decide (jabs (jabs (smv M o j p q h) - m) ≤ M.1 4))
def evQ (M : St) (i : Nat) (m o : Int32) (j p q : Nat) : List E4 := (if flv M i m o j p q true = true then [(nI j, nI p, nI q, 1)] else []) ++ (if flv M i m o j p q false = true then [(nI j, nI p, nI q, 0)] else [])
def evR (g : Nat → List E4) : Nat → Nat → List E4
  | 0, _ => []
  | d + 1, k => g k ++ evR g d (k + 1)
def evP (M : St) (i : Nat) (m o : Int32) (ord j p : Nat) : List E4 := evR (evQ M i m o j p) ord 1
def evJ (M : St) (i : Nat) (m o : Int32) (ord j : Nat) : List E4 := evR (evP M i m o ord j) ord 1
def ev (M : St) (i : Nat) (m o : Int32) (ord n : Nat) : List E4 := evR (evJ M i m o ord) n 0
/-- same plan -/
def DM (σ M : St) : Prop := (∀ k : Nat, k ≤ 12 → σ.1 k = M.1 k) ∧ σ.2 = M.2
def oscS (M : St) (i : Nat) (m : Int32) : Int32 := if M.1 2 = 1 then M.2 0 i + m else M.2 0 i - m
theorem osc_M (h : DM σ M) {i : Nat} (hi : i < 20) (m : Int32) : fM_oscillatorOf N σ (nI i) m = some (oscS M i m) := by
  have hI : (nI i).toInt = (i : Int) := nI_toInt (by omega)
  have g : ∀ x : Option Int32, gi (nI i) 20 x = x := fun x => gi_ok (by omega) (by omega)
  unfold fM_oscillatorOf oscS
  rw [h.1 2 (by decide), h.2, tn_nI (by omega)]
  by_cases c : M.1 2 = 1
  · rw [if_pos c, if_pos c, g]
  · rw [if_neg c, if_neg c, g]
theorem nle {a b : Int32} (h : ¬ a ≤ b) : b < a := Int32.not_le.mp h
theorem falls_M (h : DM σ M) {i j p q : Nat} (hi : i < 20) (hj : j < 20) (hp : p < 100) (hq : q < 100) (m : Int32) (hb : Bool) : fM_falls N σ (nI i) m (nI j) (nI p) (nI q) (if hb = true then 1 else 0) = some (if flv M i m (oscS M i m) j p q hb = true then 1 else 0) := by
  have hJ : (nI j).toInt = (j : Int) := nI_toInt (by omega)
  have g : ∀ x : Option Int32, gi (nI j) 20 x = x := fun x => gi_ok (by omega) (by omega)
  have ej : (nI j = nI i) ↔ j = i := nI_eq (by omega) (by omega)
  have ep : (nI p = 1) ↔ p = 1 := nI_eq (b := 1) (by omega) (by decide)
  have eq : (nI q = 1) ↔ q = 1 := nI_eq (b := 1) (by omega) (by decide)
  have h4 : σ.1 4 = M.1 4 := h.1 4 (by decide)
  generalize ho : oscS M i m = o
  have eosc : fM_oscillatorOf N σ (nI i) m = some o := by rw [osc_M h hi, ho]
  have en : -nI q * o = -(nI q * o) := Int32.neg_mul ..
  have core : (if (if hb = true then (1 : Int32) else 0) = 1 then bd1 (fM_size N (nI p * σ.2 0 (nI j).toNatClampNeg + nI q * o)) (fun r => bd1 (fM_size N (r - m)) (fun r2 => if σ.1 4 < r2 then some (0 : Int32) else some 1)) else bd1 (fM_size N (nI p * σ.2 0 (nI j).toNatClampNeg + -nI q * o)) (fun r => bd1 (fM_size N (r - m)) (fun r2 => if σ.1 4 < r2 then some (0 : Int32) else some 1))) = some (if jabs (jabs (smv M o j p q hb) - m) ≤ M.1 4 then 1 else 0) := by
    rw [h.2, tn_nI (by omega), h4]
    have es : nI p * M.2 0 j + nI q * o = smv M o j p q true := rfl
    have es2 : nI p * M.2 0 j - nI q * o = smv M o j p q false := rfl
    cases hb with
    | true =>
      rw [if_pos rfl, if_pos rfl, size_eq, es]
      simp only [bd1, size_eq]
      generalize smv M o j p q true = z
      by_cases c : jabs (jabs z - m) ≤ M.1 4
      · rw [if_pos c, if_neg (Int32.not_lt.mpr c)]
      · rw [if_neg c, if_pos (nle c)]
    | false =>
      rw [if_neg (by decide), size_eq, en, ← Int32.sub_eq_add_neg, es2]
      simp only [bd1, size_eq]
      generalize smv M o j p q false = z
      by_cases c : jabs (jabs z - m) ≤ M.1 4
      · rw [if_neg (Int32.not_lt.mpr c), if_pos c]
      · rw [if_pos (nle c), if_neg c]
  unfold fM_falls
  rw [eosc]
  simp only [bd1] at core ⊢
  by_cases c0 : 0 < o
  · have c0' : ¬ o ≤ 0 := Int32.not_le.mpr c0
    rw [if_neg c0']
    by_cases c1 : j = i
    · rw [if_pos (ej.mpr c1)]
      by_cases c2 : p = 1
      · rw [if_pos (ep.mpr c2)]
        by_cases c3 : q = 1
        · rw [if_pos (eq.mpr c3)]
          simp [flv, c1, c2, c3]
        · rw [if_neg (fun z => c3 (eq.mp z)), g, core]
          simp [flv, c0, c3]
      · rw [if_neg (fun z => c2 (ep.mp z)), g, core]
        simp [flv, c0, c2]
    · rw [if_neg (fun z => c1 (ej.mp z)), g, core]
      simp [flv, c0, c1]
  · rw [if_pos (Int32.not_lt.mp c0)]
    simp [flv, c0]
def recM (σ : St) (e : E4) : St := s1 (s1 (s1 (s1 σ 13 e.1) 14 e.2.1) 15 e.2.2.1) 16 e.2.2.2
def stM (w : Int32) (s : Int32 × St) (e : E4) : Int32 × St := (s.1 + 1, if s.1 = w then recM s.2 e else s.2)
theorem DM_rec {e : E4} (h : DM σ M) : DM (recM σ e) M := by
  refine ⟨fun k hk => ?_, h.2⟩
  show upd (upd (upd (upd σ.1 13 _) 14 _) 15 _) 16 _ k = _
  rw [upd_ne (by omega), upd_ne (by omega), upd_ne (by omega), upd_ne (by omega)]
  exact h.1 k hk
theorem DM_st {w : Int32} {s : Int32 × St} {e : E4} (h : DM s.2 M) : DM (stM w s e).2 M := by
  unfold stM
  by_cases c : s.1 = w
  · simp only [c, if_true]; exact DM_rec h
  · simp only [c, if_false]; exact h
theorem DM_fold {w : Int32} : ∀ (l : List E4) (s : Int32 × St), DM s.2 M → DM (l.foldl (stM w) s).2 M := by
  intro l
  induction l with
  | nil => intro s h; exact h
  | cons e l ih => intro s h; exact ih _ (DM_st h)
theorem go42 (w : Int32) {i j p q n : Nat} (hi : i < 20) (hj : j < 20) (hp : p < 100) (hq : q < 100) (m : Int32) (hn : 3 ≤ n) (c : Int32) (h : DM σ M) : fM_goSpurs_L42 N (nI i) m w (nI j) (nI p) (nI q) n c 1 σ = some ((evQ M i m (oscS M i m) j p q).foldl (stM w) (c, σ)) := by
  obtain ⟨n, rfl⟩ : ∃ z, n = z + 3 := ⟨n - 3, by omega⟩
  have f1 : ∀ s : St, DM s M → fM_falls N s (nI i) m (nI j) (nI p) (nI q) 1 = some (if flv M i m (oscS M i m) j p q true = true then 1 else 0) := fun s hs => falls_M hs hi hj hp hq m true
  have f0 : ∀ s : St, DM s M → fM_falls N s (nI i) m (nI j) (nI p) (nI q) 0 = some (if flv M i m (oscS M i m) j p q false = true then 1 else 0) := fun s hs => falls_M hs hi hj hp hq m false
  have z0 : (1 : Int32) + -1 = 0 := by decide
  have z1 : (0 : Int32) + -1 = -1 := by decide
  have zl : ∀ (k : Nat) (c : Int32) (s : St), fM_goSpurs_L42 N (nI i) m w (nI j) (nI p) (nI q) (k + 1) c (-1) s = some (c, s) := fun k c s => by rw [fM_goSpurs_L42.eq_2, if_pos (by decide)]
  have z2 : ∀ (c : Int32) (s : St), DM s M → fM_goSpurs_L42 N (nI i) m w (nI j) (nI p) (nI q) (n + 2) c 0 s = some ((if flv M i m (oscS M i m) j p q false = true then [(nI j, nI p, nI q, (0 : Int32))] else []).foldl (stM w) (c, s)) := fun c s hs => by
    rw [fM_goSpurs_L42.eq_2, if_neg (by decide), f0 s hs, z1]
    simp only [bd1]
    by_cases c2 : flv M i m (oscS M i m) j p q false = true
    · rw [if_pos c2, if_pos c2, if_neg (by decide)]
      by_cases c3 : c = w
      · rw [if_pos c3, zl]
        simp [stM, c3, recM]
      · rw [if_neg c3, zl]
        simp [stM, c3]
    · rw [if_neg c2, if_neg c2, if_pos rfl, zl]
      rfl
  rw [fM_goSpurs_L42.eq_2, if_neg (by decide), f1 σ h, z0, evQ, List.foldl_append]
  simp only [bd1]
  by_cases c1 : flv M i m (oscS M i m) j p q true = true
  · rw [if_pos c1, if_pos c1, if_neg (by decide)]
    by_cases c3 : c = w
    · rw [if_pos c3]
      have e : [(nI j, nI p, nI q, (1 : Int32))].foldl (stM w) (c, σ) = (c + 1, recM σ (nI j, nI p, nI q, 1)) := by simp [stM, c3]
      rw [e]
      exact z2 (c + 1) (recM σ (nI j, nI p, nI q, 1)) (DM_rec h)
    · rw [if_neg c3]
      have e : [(nI j, nI p, nI q, (1 : Int32))].foldl (stM w) (c, σ) = (c + 1, σ) := by simp [stM, c3]
      rw [e, z2 _ _ h]
  · rw [if_neg c1, if_neg c1, if_pos rfl, z2 _ _ h]
    rfl
theorem go30 (w : Int32) {i j p ord : Nat} (hi : i < 20) (hj : j < 20) (hp : p < 100) (hN : 100 ≤ N) (m : Int32) (ho : M.1 3 = nI ord) (h5 : ord ≤ 5) : ∀ (d q n : Nat) (s : Int32 × St), q + d = ord + 1 → d < n → DM s.2 M → fM_goSpurs_L30 N (nI i) m w (nI j) (nI p) n s.1 (nI q) s.2 = some ((evR (evQ M i m (oscS M i m) j p) d q).foldl (stM w) s) := by
  intro d
  induction d with
  | zero =>
    intro q n s hq hn h
    obtain ⟨n, rfl⟩ : ∃ z, n = z + 1 := ⟨n - 1, by omega⟩
    rw [fM_goSpurs_L30.eq_2, if_pos (by rw [h.1 3 (by decide), ho]; exact nI_lt (by omega) (by omega))]
    rfl
  | succ d ih =>
    intro q n s hq hn h
    obtain ⟨n, rfl⟩ : ∃ z, n = z + 1 := ⟨n - 1, by omega⟩
    rw [fM_goSpurs_L30.eq_2, if_neg (by rw [h.1 3 (by decide), ho]; exact nI_nlt (by omega) (by omega)), go42 w hi hj hp (by omega) m (by omega) s.1 h]
    simp only [bd2, nI_1, evR, List.foldl_append]
    exact ih (q + 1) n _ (by omega) (by omega) (DM_fold _ _ h)
theorem go18 (w : Int32) {i j ord : Nat} (hi : i < 20) (hj : j < 20) (hN : 100 ≤ N) (m : Int32) (ho : M.1 3 = nI ord) (h5 : ord ≤ 5) : ∀ (d p n : Nat) (s : Int32 × St), p + d = ord + 1 → d < n → DM s.2 M → fM_goSpurs_L18 N (nI i) m w (nI j) n s.1 (nI p) s.2 = some ((evR (evP M i m (oscS M i m) ord j) d p).foldl (stM w) s) := by
  intro d
  induction d with
  | zero =>
    intro p n s hp hn h
    obtain ⟨n, rfl⟩ : ∃ z, n = z + 1 := ⟨n - 1, by omega⟩
    rw [fM_goSpurs_L18.eq_2, if_pos (by rw [h.1 3 (by decide), ho]; exact nI_lt (by omega) (by omega))]
    rfl
  | succ d ih =>
    intro p n s hp hn h
    obtain ⟨n, rfl⟩ : ∃ z, n = z + 1 := ⟨n - 1, by omega⟩
    have e := go30 (N := N) w hi hj (show p < 100 by omega) hN m ho h5 ord 1 N s (by omega) (by omega) h
    have e' : fM_goSpurs_L30 N (nI i) m w (nI j) (nI p) N s.1 1 s.2 = _ := e
    rw [fM_goSpurs_L18.eq_2, if_neg (by rw [h.1 3 (by decide), ho]; exact nI_nlt (by omega) (by omega)), e']
    simp only [bd2, nI_1, evR, List.foldl_append]
    exact ih (p + 1) n _ (by omega) (by omega) (DM_fold _ _ h)
theorem go6 (w : Int32) {i ord ns : Nat} (hi : i < 20) (hN : 100 ≤ N) (m : Int32) (ho : M.1 3 = nI ord) (h5 : ord ≤ 5) (hs : M.1 0 = nI ns) (h20 : ns ≤ 20) : ∀ (d j n : Nat) (s : Int32 × St), j + d = ns → d < n → DM s.2 M → fM_goSpurs_L6 N (nI i) m w n s.1 (nI j) s.2 = some ((evR (evJ M i m (oscS M i m) ord) d j).foldl (stM w) s) := by
  intro d
  induction d with
  | zero =>
    intro j n s hj hn h
    obtain ⟨n, rfl⟩ : ∃ z, n = z + 1 := ⟨n - 1, by omega⟩
    rw [fM_goSpurs_L6.eq_2, if_pos (by rw [h.1 0 (by decide), hs]; exact nI_le (by omega) (by omega))]
    rfl
  | succ d ih =>
    intro j n s hj hn h
    obtain ⟨n, rfl⟩ : ∃ z, n = z + 1 := ⟨n - 1, by omega⟩
    have e := go18 (N := N) w hi (show j < 20 by omega) hN m ho h5 ord 1 N s (by omega) (by omega) h
    have e' : fM_goSpurs_L18 N (nI i) m w (nI j) N s.1 1 s.2 = _ := e
    rw [fM_goSpurs_L6.eq_2, if_neg (by rw [h.1 0 (by decide), hs]; exact nI_ge (by omega) (by omega)), e']
    simp only [bd2, nI_1, evR, List.foldl_append]
    exact ih (j + 1) n _ (by omega) (by omega) (DM_fold _ _ h)
theorem goS (w : Int32) {i ord ns : Nat} (hi : i < 20) (hN : 100 ≤ N) (m : Int32) (ho : M.1 3 = nI ord) (h5 : ord ≤ 5) (hs : M.1 0 = nI ns) (h20 : ns ≤ 20) (h : DM σ M) : fM_goSpurs N σ (nI i) m w = some ((ev M i m (oscS M i m) ord ns).foldl (stM w) (0, σ)) := by
  have e := go6 (N := N) w hi hN m ho h5 hs h20 ns 0 N (0, σ) (by omega) (by omega) h
  exact e
end
