/-! birdies, load, best, plan -/
section
variable {N : Nat} {M X : St}
def bdS (M : St) (m : Int32) (i : Nat) : Nat → Nat → Int32 → Int32
  | 0, _, a => a
  | d + 1, k, a => bdS M m i d (k + 1) (if M.1 4 < jabs (nI k * m - M.2 0 i) then a else a + 1)
def baS (M : St) (m : Int32) (c : Nat) : Nat → Nat → Int32 → Int32
  | 0, _, a => a
  | d + 1, i, a => baS M m c d (i + 1) (bdS M m i c 2 a)
theorem bd_M {m : Int32} {i ord : Nat} (hi : i < 20) (ho : M.1 3 = nI ord) (h5 : ord ≤ 5) : ∀ (d k n : Nat) (a : Int32), k + d = ord + 4 → d < n → fM_birdiesOf_L15 N M m (nI i) n a (nI k) = some (bdS M m i d k a) := by
  have hiI : (nI i).toInt = (i : Int) := nI_toInt (by omega)
  have e3 : M.1 3 + 3 = nI (ord + 3) := by rw [ho]; exact nI_add ord 3
  intro d
  induction d with
  | zero =>
    intro k n a hk hn
    obtain ⟨n, rfl⟩ : ∃ z, n = z + 1 := ⟨n - 1, by omega⟩
    rw [fM_birdiesOf_L15.eq_2, e3, if_pos (nI_lt (by omega) (by omega))]
    rfl
  | succ d ih =>
    intro k n a hk hn
    obtain ⟨n, rfl⟩ : ∃ z, n = z + 1 := ⟨n - 1, by omega⟩
    rw [fM_birdiesOf_L15.eq_2, e3, if_neg (nI_nlt (by omega) (by omega)), gi_ok (by omega) (by omega), size_eq, tn_nI (by omega), nI_1]
    simp only [bd1, bdS]
    by_cases c : M.1 4 < jabs (nI k * m - M.2 0 i)
    · rw [if_pos c, if_pos c, Int32.add_zero]
      exact ih (k + 1) n a (by omega) (by omega)
    · rw [if_neg c, if_neg c]
      exact ih (k + 1) n _ (by omega) (by omega)
theorem bd_X {m : Int32} {i ord : Nat} (hRD : RD X M) (hi : i < 20) (ho : M.1 3 = nI ord) (h5 : ord ≤ 5) : ∀ (d k n : Nat) (a : Int32), k + d = ord + 4 → d < n → fX1_birdiesFor_L15 N X m (nI i) n a (nI k) = some (bdS M m i d k a) := by
  have hiI : (nI i).toInt = (i : Int) := nI_toInt (by omega)
  have z2 : X.2 2 (2 : Int32).toNatClampNeg = M.1 3 := hRD.2.2.2.2.2.1
  have z3 : X.2 2 (3 : Int32).toNatClampNeg = M.1 4 := hRD.2.2.2.2.2.2
  have e3 : M.1 3 + 3 = nI (ord + 3) := by rw [ho]; exact nI_add ord 3
  intro d
  induction d with
  | zero =>
    intro k n a hk hn
    obtain ⟨n, rfl⟩ : ∃ z, n = z + 1 := ⟨n - 1, by omega⟩
    rw [fX1_birdiesFor_L15.eq_2, z2, e3, if_pos (nI_lt (by omega) (by omega))]
    rfl
  | succ d ih =>
    intro k n a hk hn
    obtain ⟨n, rfl⟩ : ∃ z, n = z + 1 := ⟨n - 1, by omega⟩
    rw [fX1_birdiesFor_L15.eq_2, z2, z3, e3, if_neg (nI_nlt (by omega) (by omega)), gi_ok (by omega) (by omega), tn_nI (by omega), hRD.2.1, nI_1]
    simp only [bdS]
    by_cases c : M.1 4 < jabs (nI k * m - M.2 0 i)
    · rw [if_pos c, if_pos c]
      exact ih (k + 1) n a (by omega) (by omega)
    · rw [if_neg c, if_neg c]
      exact ih (k + 1) n _ (by omega) (by omega)
theorem ba_M {m : Int32} {ord ns : Nat} (hN : 100 ≤ N) (ho : M.1 3 = nI ord) (h5 : ord ≤ 5) (hs : M.1 0 = nI ns) (h20 : ns ≤ 20) : ∀ (d i n : Nat) (a : Int32), i + d = ns → d < n → fM_birdiesOf_L4 N M m n a (nI i) = some (baS M m (ord + 2) d i a) := by
  intro d
  induction d with
  | zero =>
    intro i n a hk hn
    obtain ⟨n, rfl⟩ : ∃ z, n = z + 1 := ⟨n - 1, by omega⟩
    rw [fM_birdiesOf_L4.eq_2, hs, if_pos (nI_le (by omega) (by omega))]
    rfl
  | succ d ih =>
    intro i n a hk hn
    obtain ⟨n, rfl⟩ : ∃ z, n = z + 1 := ⟨n - 1, by omega⟩
    have e : fM_birdiesOf_L15 N M m (nI i) N a 2 = some (bdS M m i (ord + 2) 2 a) := bd_M (by omega) ho h5 (ord + 2) 2 N a (by omega) (by omega)
    rw [fM_birdiesOf_L4.eq_2, hs, if_neg (nI_ge (by omega) (by omega)), e, nI_1]
    exact ih (i + 1) n _ (by omega) (by omega)
theorem ba_X {m : Int32} {ord ns : Nat} (hN : 100 ≤ N) (hRD : RD X M) (ho : M.1 3 = nI ord) (h5 : ord ≤ 5) (hs : M.1 0 = nI ns) (h20 : ns ≤ 20) : ∀ (d i n : Nat) (a : Int32), i + d = ns → d < n → fX1_birdiesFor_L4 N X m n a (nI i) = some (baS M m (ord + 2) d i a) := by
  intro d
  induction d with
  | zero =>
    intro i n a hk hn
    obtain ⟨n, rfl⟩ : ∃ z, n = z + 1 := ⟨n - 1, by omega⟩
    rw [fX1_birdiesFor_L4.eq_2, hRD.1, hs, if_pos (nI_le (by omega) (by omega))]
    rfl
  | succ d ih =>
    intro i n a hk hn
    obtain ⟨n, rfl⟩ : ∃ z, n = z + 1 := ⟨n - 1, by omega⟩
    have e : fX1_birdiesFor_L15 N X m (nI i) N a 2 = some (bdS M m i (ord + 2) 2 a) := bd_X hRD (by omega) ho h5 (ord + 2) 2 N a (by omega) (by omega)
    rw [fX1_birdiesFor_L4.eq_2, hRD.1, hs, if_neg (nI_ge (by omega) (by omega)), e, nI_1]
    exact ih (i + 1) n _ (by omega) (by omega)
theorem op_birdies (hN : 100 ≤ N) (h : Rel X M) : ∃ r X' M', lf X (fX6_birdies N X) = some (r, X') ∧ lf M (fM_birdies N M) = some (r, M') ∧ Rel X' M' := by
  obtain ⟨⟨hRD, hBD⟩, _⟩ := id h
  obtain ⟨ns, ord, hs, h20, ho, h1, h5⟩ := dial_n hBD
  have eX : fX1_birdiesFor N X (M.1 1) = some (baS M (M.1 1) (ord + 2) ns 0 0) := ba_X hN hRD ho h5 hs h20 ns 0 N 0 (by omega) (by omega)
  have eM : fM_birdiesOf N M (M.1 1) = some (baS M (M.1 1) (ord + 2) ns 0 0) := ba_M hN ho h5 hs h20 ns 0 N 0 (by omega) (by omega)
  exact ⟨baS M (M.1 1) (ord + 2) ns 0 0, X, M, by simp [fX6_birdies, mid_X hRD, bd1, eX, lf], by simp [fM_birdies, bd1, eM, lf], h⟩
def fw (M : St) (a : Int32) (e : E4) : Int32 := a + wtS M e
theorem fw_acc : ∀ (l : List E4) (a : Int32), l.foldl (fw M) a = a + l.foldl (fw M) 0 := by
  intro l
  induction l with
  | nil => intro a; exact (Int32.add_zero a).symm
  | cons e l ih =>
    intro a
    show l.foldl (fw M) (a + wtS M e) = a + l.foldl (fw M) (0 + wtS M e)
    rw [ih (a + wtS M e), ih (0 + wtS M e), Int32.zero_add, Int32.add_assoc]
theorem ld64 {i j p ord : Nat} {m : Int32} (hi : i < 20) (hj : j < 20) (hp1 : 1 ≤ p) (hp : p ≤ 5) (ho : M.1 3 = nI ord) (h5 : ord ≤ 5) : ∀ (d q n : Nat) (a : Int32), q + d = ord + 1 → 1 ≤ q → d < n → fM_loadOf_L64 N M m (nI i) (nI j) (nI p) n a (nI q) = some ((evR (evQ M i m (oscS M i m) j p) d q).foldl (fw M) a) := by
  have hjI : (nI j).toInt = (j : Int) := nI_toInt (by omega)
  have g : ∀ x : Option Int32, gi (nI j) 20 x = x := fun x => gi_ok (by omega) (by omega)
  intro d
  induction d with
  | zero =>
    intro q n a hq h1 hn
    obtain ⟨n, rfl⟩ : ∃ z, n = z + 1 := ⟨n - 1, by omega⟩
    rw [fM_loadOf_L64.eq_2, ho, if_pos (nI_lt (by omega) (by omega))]
    rfl
  | succ d ih =>
    intro q n a hq h1 hn
    obtain ⟨n, rfl⟩ : ∃ z, n = z + 1 := ⟨n - 1, by omega⟩
    have f1 : fM_falls N M (nI i) m (nI j) (nI p) (nI q) 1 = some (if flv M i m (oscS M i m) j p q true = true then 1 else 0) := falls_M (σ := M) (M := M) DM_rf hi hj (by omega) (by omega) m true
    have f0 : fM_falls N M (nI i) m (nI j) (nI p) (nI q) 0 = some (if flv M i m (oscS M i m) j p q false = true then 1 else 0) := falls_M (σ := M) (M := M) DM_rf hi hj (by omega) (by omega) m false
    have b1 : p * q ≤ 5 * 6 := Nat.mul_le_mul (by omega) (by omega)
    have b2 : 0 < p * q := Nat.mul_pos (by omega) (by omega)
    have gz : ∀ x : Option Int32, nz (nI p * nI q) x = x := fun x => nz_ok (by rw [pk_mul, nI_toInt (by omega)]; omega)
    have ew : ∀ z : Int32, M.2 1 (nI j).toNatClampNeg / (nI p * nI q) = wtS M (nI j, nI p, nI q, z) := fun _ => rfl
    rw [fM_loadOf_L64.eq_2, ho, if_neg (nI_nlt (by omega) (by omega)), f1, f0, nI_1]
    show _ = some ((evQ M i m (oscS M i m) j p q ++ evR (evQ M i m (oscS M i m) j p) d (q + 1)).foldl (fw M) a)
    rw [List.foldl_append, evQ, List.foldl_append]
    have ih' : ∀ a : Int32, fM_loadOf_L64 N M m (nI i) (nI j) (nI p) n a (nI (q + 1)) = some ((evR (evQ M i m (oscS M i m) j p) d (q + 1)).foldl (fw M) a) := fun a => ih (q + 1) n a (by omega) (by omega) (by omega)
    simp only [bd1, g, gz, ih', Int32.add_zero]
    by_cases c1 : flv M i m (oscS M i m) j p q true = true
    · by_cases c0 : flv M i m (oscS M i m) j p q false = true
      · simp only [c1, c0, if_true, List.foldl_cons, List.foldl_nil]
        rw [if_neg (by decide), if_neg (by decide)]
        rfl
      · simp only [c1, c0, if_true, List.foldl_cons, List.foldl_nil]
        rw [if_neg (by decide)]
        rfl
    · by_cases c0 : flv M i m (oscS M i m) j p q false = true
      · simp only [c1, c0, if_true, List.foldl_cons, List.foldl_nil]
        rfl
      · simp only [c1, c0]
        rfl
theorem ld52 {i j ord : Nat} {m : Int32} (hN : 100 ≤ N) (hi : i < 20) (hj : j < 20) (ho : M.1 3 = nI ord) (h5 : ord ≤ 5) : ∀ (d p n : Nat) (a : Int32), p + d = ord + 1 → 1 ≤ p → d < n → fM_loadOf_L52 N M m (nI i) (nI j) n a (nI p) = some ((evR (evP M i m (oscS M i m) ord j) d p).foldl (fw M) a) := by
  intro d
  induction d with
  | zero =>
    intro p n a hq h1 hn
    obtain ⟨n, rfl⟩ : ∃ z, n = z + 1 := ⟨n - 1, by omega⟩
    rw [fM_loadOf_L52.eq_2, ho, if_pos (nI_lt (by omega) (by omega))]
    rfl
  | succ d ih =>
    intro p n a hq h1 hn
    obtain ⟨n, rfl⟩ : ∃ z, n = z + 1 := ⟨n - 1, by omega⟩
    have e : fM_loadOf_L64 N M m (nI i) (nI j) (nI p) N a 1 = some ((evP M i m (oscS M i m) ord j p).foldl (fw M) a) := ld64 hi hj h1 (by omega) ho h5 ord 1 N a (by omega) (by omega) (by omega)
    rw [fM_loadOf_L52.eq_2, ho, if_neg (nI_nlt (by omega) (by omega)), e, nI_1]
    show _ = some ((evP M i m (oscS M i m) ord j p ++ evR (evP M i m (oscS M i m) ord j) d (p + 1)).foldl (fw M) a)
    rw [List.foldl_append]
    exact ih (p + 1) n _ (by omega) (by omega) (by omega)
theorem ld40 {i ord ns : Nat} {m : Int32} (hN : 100 ≤ N) (hi : i < 20) (ho : M.1 3 = nI ord) (h5 : ord ≤ 5) (hs : M.1 0 = nI ns) (h20 : ns ≤ 20) : ∀ (d j n : Nat) (a : Int32), j + d = ns → d < n → fM_loadOf_L40 N M m (nI i) n a (nI j) = some ((evR (evJ M i m (oscS M i m) ord) d j).foldl (fw M) a) := by
  intro d
  induction d with
  | zero =>
    intro j n a hq hn
    obtain ⟨n, rfl⟩ : ∃ z, n = z + 1 := ⟨n - 1, by omega⟩
    rw [fM_loadOf_L40.eq_2, hs, if_pos (nI_le (by omega) (by omega))]
    rfl
  | succ d ih =>
    intro j n a hq hn
    obtain ⟨n, rfl⟩ : ∃ z, n = z + 1 := ⟨n - 1, by omega⟩
    have e : fM_loadOf_L52 N M m (nI i) (nI j) N a 1 = some ((evJ M i m (oscS M i m) ord j).foldl (fw M) a) := ld52 hN hi (by omega) ho h5 ord 1 N a (by omega) (by omega) (by omega)
    rw [fM_loadOf_L40.eq_2, hs, if_neg (nI_ge (by omega) (by omega)), e, nI_1]
    show _ = some ((evJ M i m (oscS M i m) ord j ++ evR (evJ M i m (oscS M i m) ord) d (j + 1)).foldl (fw M) a)
    rw [List.foldl_append]
    exact ih (j + 1) n _ (by omega) (by omega)
def ldS (M : St) (m : Int32) (ord ns : Nat) : Nat → Nat → Int32 → Int32
  | 0, _, a => a
  | d + 1, i, a => ldS M m ord ns d (i + 1) (if 0 < oscS M i m then (ev M i m (oscS M i m) ord ns).foldl (fw M) a else a + 100)
theorem ldM {ord ns : Nat} {m : Int32} (hN : 100 ≤ N) (ho : M.1 3 = nI ord) (h5 : ord ≤ 5) (hs : M.1 0 = nI ns) (h20 : ns ≤ 20) : ∀ (d i n : Nat) (a : Int32), i + d = ns → d < n → fM_loadOf_L11 N M m n a (nI i) = some (ldS M m ord ns d i a) := by
  intro d
  induction d with
  | zero =>
    intro i n a hq hn
    obtain ⟨n, rfl⟩ : ∃ z, n = z + 1 := ⟨n - 1, by omega⟩
    rw [fM_loadOf_L11.eq_2, hs, if_pos (nI_le (by omega) (by omega))]
    rfl
  | succ d ih =>
    intro i n a hq hn
    obtain ⟨n, rfl⟩ : ∃ z, n = z + 1 := ⟨n - 1, by omega⟩
    have e : ∀ a, fM_loadOf_L40 N M m (nI i) N a 0 = some ((ev M i m (oscS M i m) ord ns).foldl (fw M) a) := fun a => ld40 hN (show i < 20 by omega) ho h5 hs h20 ns 0 N a (by omega) (by omega)
    rw [fM_loadOf_L11.eq_2, hs, if_neg (nI_ge (by omega) (by omega)), osc_M DM_rf (show i < 20 by omega), nI_1]
    simp only [bd1, e, ldS, Int32.add_zero]
    by_cases c : 0 < oscS M i m
    · rw [if_pos c, if_pos c]
      exact ih (i + 1) n _ (by omega) (by omega)
    · rw [if_neg c, if_neg c, ev_no c]
      exact ih (i + 1) n _ (by omega) (by omega)
theorem RD_DX {X' : St} (h : RD X M) (d : DX X' X) : RD X' M := by
  unfold RD at h ⊢
  rw [d.1 0 (Or.inl rfl), d.2 0 (by decide), d.2 1 (by decide), d.2 2 (by decide)]
  exact h
theorem ldX {ord ns : Nat} {m : Int32} (hN : 100 ≤ N) (hRD : RD X M) (hB : BD M) (hm : BI m 20 900) (ho : M.1 3 = nI ord) (h1 : 1 ≤ ord) (h5 : ord ≤ 5) (hs : M.1 0 = nI ns) (h20 : ns ≤ 20) : ∀ (d i n : Nat) (a : Int32) (s : St), i + d = ns → d < n → DX s X → ∃ s', fX1_loadFor_L11 N m n a (nI i) s = some (ldS M m ord ns d i a, s') ∧ DX s' X := by
  intro d
  induction d with
  | zero =>
    intro i n a s hq hn h
    obtain ⟨n, rfl⟩ : ∃ z, n = z + 1 := ⟨n - 1, by omega⟩
    refine ⟨s, ?_, h⟩
    rw [fX1_loadFor_L11.eq_2, h.1 0 (Or.inl rfl), hRD.1, hs, if_pos (nI_le (by omega) (by omega))]
    rfl
  | succ d ih =>
    intro i n a s hq hn h
    obtain ⟨n, rfl⟩ : ∃ z, n = z + 1 := ⟨n - 1, by omega⟩
    rw [fX1_loadFor_L11.eq_2, h.1 0 (Or.inl rfl), hRD.1, hs, if_neg (nI_ge (by omega) (by omega)), osc_X hRD h (show i < 20 by omega), nI_1]
    simp only [bd1, ldS]
    by_cases c : 0 < oscS M i m
    · have eX := gaX (N := N) (X := s) (-1) hN (RD_DX hRD h) hB hm ho h1 h5 hs h20 (show i < ns by omega)
      have ew : ((ev M i m (oscS M i m) ord ns).foldl (stX M) (bgS s (-1))).1 3 = (ev M i m (oscS M i m) ord ns).foldl (fw M) 0 := fX_wt _ _
      rw [if_pos c, if_pos c, eX]
      simp only [fX4_weights, ew]
      rw [← fw_acc]
      exact ih (i + 1) n _ _ (by omega) (by omega) (DX_tr (DX_fold _ _ DX_bg) h)
    · rw [if_neg c, if_neg c]
      exact ih (i + 1) n _ s (by omega) (by omega) h
def loS (M : St) (m : Int32) (ord ns : Nat) : Int32 := ldS M m ord ns ns 0 (10 * baS M m (ord + 2) ns 0 0)
theorem lo_M {ord ns : Nat} {m : Int32} (hN : 100 ≤ N) (ho : M.1 3 = nI ord) (h5 : ord ≤ 5) (hs : M.1 0 = nI ns) (h20 : ns ≤ 20) : fM_loadOf N M m = some (loS M m ord ns) := by
  have eM : fM_birdiesOf N M m = some (baS M m (ord + 2) ns 0 0) := ba_M hN ho h5 hs h20 ns 0 N 0 (by omega) (by omega)
  rw [fM_loadOf, eM]
  exact ldM hN ho h5 hs h20 ns 0 N _ (by omega) (by omega)
theorem lo_X {ord ns : Nat} {m : Int32} (hN : 100 ≤ N) (hRD : RD X M) (hB : BD M) (hm : BI m 20 900) (ho : M.1 3 = nI ord) (h1 : 1 ≤ ord) (h5 : ord ≤ 5) (hs : M.1 0 = nI ns) (h20 : ns ≤ 20) {s : St} (h : DX s X) : ∃ s', fX1_loadFor N s m = some (loS M m ord ns, s') ∧ DX s' X := by
  have eX : fX1_birdiesFor N s m = some (baS M m (ord + 2) ns 0 0) := ba_X hN (RD_DX hRD h) ho h5 hs h20 ns 0 N 0 (by omega) (by omega)
  rw [fX1_loadFor, eX]
  exact ldX hN hRD hB hm ho h1 h5 hs h20 ns 0 N _ s (by omega) (by omega) h
theorem op_load (a : Int32) (hN : 100 ≤ N) (h : Rel X M) : ∃ r X' M', fX6_load N X a = some (r, X') ∧ lf M (fM_load N M a) = some (r, M') ∧ Rel X' M' := by
  obtain ⟨⟨hRD, hBD⟩, _⟩ := id h
  obtain ⟨ns, ord, hs, h20, ho, h1, h5⟩ := dial_n hBD
  rcases within_cases N a 20 900 with ⟨w, v⟩ | ⟨w, v⟩
  · obtain ⟨s', e, d⟩ := lo_X (N := N) hN hRD hBD v ho h1 h5 hs h20 DX_rf
    refine ⟨loS M a ord ns, s', M, ?_, ?_, Rel_DX h d⟩
    · simp [fX6_load, wX_M, w, bd1, bd2, e]
    · simp [fM_load, fM_isMiddle, w, bd1, bz, lo_M hN ho h5 hs h20, lf]
  · refine ⟨-1, X, M, ?_, ?_, h⟩
    · simp [fX6_load, wX_M, w, bd1]
    · simp [fM_load, fM_isMiddle, w, bd1, bz, lf]
end
