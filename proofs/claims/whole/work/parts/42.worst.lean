/-! image, worst, birdies -/
section
variable {N : Nat} {M X σ : St}
theorem op_image (a b : Int32) (h : Rel X M) : ∃ r X' M', lf X (fX6_image N X a b) = some (r, X') ∧ lf M (fM_image N M a b) = some (r, M') ∧ Rel X' M' := by
  obtain ⟨⟨hRD, hBD⟩, _⟩ := id h
  obtain ⟨ns, ord, hs, h20, ho, h1, h5⟩ := dial_n hBD
  rcases st_cases N hRD hs h20 a with ⟨i, hi, rfl, x1, m1⟩ | ⟨x1, m1⟩
  · rcases st_cases N hRD hs h20 b with ⟨j, hj, rfl, x2, m2⟩ | ⟨x2, m2⟩
    · have eM := falls_M (N := N) (σ := M) (M := M) (i := i) (j := j) (p := 1) (q := 1) DM_rf (by omega) (by omega) (by decide) (by decide) (M.1 1) false
      have eM' : fM_falls N M (nI i) (M.1 1) (nI j) 1 1 0 = some (if flv M i (M.1 1) (oscS M i (M.1 1)) j 1 1 false = true then 1 else 0) := eM
      have hjI : (nI j).toInt = (j : Int) := nI_toInt (by omega)
      have g : ∀ x : Option Int32, gi (nI j) 20 x = x := fun x => gi_ok (by omega) (by omega)
      have es : smv M (oscS M i (M.1 1)) j 1 1 false = M.2 0 j - oscS M i (M.1 1) := by
        show 1 * M.2 0 j - 1 * oscS M i (M.1 1) = _
        rw [Int32.one_mul, Int32.one_mul]
      have eX : fX1_isImage N X (nI i) (nI j) = some (if flv M i (M.1 1) (oscS M i (M.1 1)) j 1 1 false = true then 1 else 0) := by
        rw [fX1_isImage, mid_X hRD]
        simp only [bd1, osc_X hRD DX_rf (show i < 20 by omega)]
        unfold flv
        rw [es]
        by_cases c1 : j = i
        · rw [if_pos (by rw [c1])]
          simp [c1]
        · rw [if_neg (fun z => c1 ((nI_eq (by omega) (by omega)).mp z).symm)]
          by_cases c2 : 0 < oscS M i (M.1 1)
          · rw [if_neg (Int32.not_le.mpr c2), g, hRD.2.1, tn_nI (by omega), fallsOn_X hRD DX_rf]
            by_cases c3 : jabs (jabs (M.2 0 j - oscS M i (M.1 1)) - M.1 1) ≤ M.1 4
            · simp [c1, c2, c3]
            · simp [c1, c2, c3]
          · rw [if_pos (Int32.not_lt.mp c2)]
            simp [c2]
      refine ⟨if flv M i (M.1 1) (oscS M i (M.1 1)) j 1 1 false = true then 1 else 0, X, M, ?_, ?_, h⟩
      · rw [fX6_image, x1]
        simp only [bd1]
        rw [if_neg (by decide), x2]
        simp only
        rw [if_neg (by decide), eX]
        by_cases c : flv M i (M.1 1) (oscS M i (M.1 1)) j 1 1 false = true
        · simp [c, lf]
        · simp [c, lf]
      · rw [fM_image, m1]
        simp only [bd1]
        rw [if_neg (by decide), m2]
        simp only
        rw [if_neg (by decide), eM']
        by_cases c : flv M i (M.1 1) (oscS M i (M.1 1)) j 1 1 false = true
        · simp [c, lf]
        · simp [c, lf]
    · refine ⟨-1, X, M, ?_, ?_, h⟩
      · simp [fX6_image, x1, x2, bd1, lf]
      · simp [fM_image, m1, m2, bd1, lf]
  · refine ⟨-1, X, M, ?_, ?_, h⟩
    · simp [fX6_image, x1, bd1, lf]
    · simp [fM_image, m1, bd1, lf]
def hvF (M : St) : List E4 → Nat → Int32 → Int32 → Int32
  | [], _, b, _ => b
  | e :: l, k, b, w => if wtS M e ≤ w then hvF M l (k + 1) b w else hvF M l (k + 1) (nI k) (wtS M e)
theorem hv_X : ∀ (l : List E4) (c : Nat) (s : St), s.1 2 = nI c → (l.foldl (stX M) s).1 4 = hvF M l c (s.1 4) (s.1 5) := by
  intro l
  induction l with
  | nil => intro c s _; rfl
  | cons e l ih =>
    intro c s h
    show (l.foldl (stX M) (stX M s e)).1 4 = _
    rw [ih (c + 1) _ (by show s.1 2 + 1 = _; rw [h, nI_1])]
    have e4 : (stX M s e).1 4 = _ := tk_4
    have e5 : (stX M s e).1 5 = _ := tk_5
    rw [e4, e5, hvF]
    by_cases c1 : wtS M e ≤ s.1 5
    · rw [if_pos c1, if_pos c1, if_pos c1]
    · rw [if_neg c1, if_neg c1, if_neg c1, h]
theorem wt_pos {i ord ns : Nat} {m o : Int32} {e : E4} (hB : BD M) (h5 : ord ≤ 5) (hs : M.1 0 = nI ns) (h20 : ns ≤ 20) (he : e ∈ ev M i m o ord ns) : ¬ wtS M e ≤ -1 := by
  obtain ⟨j, p, q, hj, p1, p2, q1, q2, e1, e2, e3⟩ := ev_mem he
  obtain ⟨s, es, s1, s2⟩ := BIn (hB.2.1 j (by rw [hs, nI_toInt (by omega)]; omega)).2 (by decide)
  have b1 : p * q ≤ 5 * 5 := Nat.mul_le_mul (by omega) (by omega)
  have b2 : 0 < p * q := Nat.mul_pos (by omega) (by omega)
  have hd : s / (p * q) ≤ s := Nat.div_le_self _ _
  have ew : wtS M e = nI (s / (p * q)) := by
    unfold wtS
    rw [e1, e2, e3, tn_nI (by omega), es, pk_mul, pk_div (by omega) b2 (by omega)]
  generalize s / (p * q) = t at *
  intro z
  have := Int32.le_iff_toInt_le.mp z
  rw [ew, nI_toInt (by omega)] at this
  simp only [Int32.reduceToInt] at this
  omega
theorem worst_loop {i ord ns : Nat} (hN : 100 ≤ N) (hi : i < 20) (ho : M.1 3 = nI ord) (h5 : ord ≤ 5) (hs : M.1 0 = nI ns) (h20 : ns ≤ 20) {L : List E4} (hL : L = ev M i (M.1 1) (oscS M i (M.1 1)) ord ns) (hlen : L.length ≤ 1000) : ∀ (d k n : Nat) (b w : Int32) (s : St), k + d = L.length → d < n → ¬ b < 0 → DM s M → ∃ s', fM_worst_L30 N (nI i) (nI L.length) n b w (nI k) s = some (hvF M (L.drop k) k b w, s') ∧ DM s' M := by
  intro d
  induction d with
  | zero =>
    intro k n b w s hk hn hb h
    obtain ⟨n, rfl⟩ : ∃ z, n = z + 1 := ⟨n - 1, by omega⟩
    refine ⟨s, ?_, h⟩
    rw [fM_worst_L30.eq_2, if_pos (nI_le (by omega) (by omega)), List.drop_eq_nil_of_le (by omega)]
    rfl
  | succ d ih =>
    intro k n b w s hk hn hb h
    obtain ⟨n, rfl⟩ : ∃ z, n = z + 1 := ⟨n - 1, by omega⟩
    have hkl : k < L.length := by omega
    have he : L[k]? = some L[k] := List.getElem?_eq_getElem hkl
    have hdrop : L.drop k = L[k] :: L.drop (k + 1) := List.drop_eq_getElem_cons hkl
    have eM := goS (N := N) (σ := s) (nI k) hi hN (M.1 1) ho h5 hs h20 h
    rw [← hL] at eM
    have fm := fM_at (k := k) (e := L[k]) (by omega) L 0 s (by omega) (by omega) (by simpa using he)
    have fm' : (L.foldl (stM (nI k)) (0, s)).2 = recM s L[k] := fm
    have hw : fM_weightAtHand N (recM s L[k]) = some (wtS M L[k]) := wt_M h5 h20 (by rw [← hL]; exact List.getElem_mem hkl) h.2
    have hd : DM (recM s L[k]) M := DM_rec h
    rw [fM_worst_L30.eq_2, if_neg (nI_ge (by omega) (by omega)), h.1 1 (by decide), eM, hdrop]
    simp only [bd2, fm']
    rw [if_neg hb, hw, nI_1]
    simp only [bd1, hvF]
    by_cases c : wtS M L[k] ≤ w
    · rw [if_pos c, if_pos c]
      exact ih (k + 1) n b w _ (by omega) (by omega) hb hd
    · rw [if_neg c, if_neg c]
      exact ih (k + 1) n (nI k) _ _ (by omega) (by omega) (nI_pos (by omega)) hd
theorem op_worst (a : Int32) (hN : 2000 ≤ N) (h : Rel X M) : ∃ r X' M', fX6_worst N X a = some (r, X') ∧ fM_worst N M a = some (r, M') ∧ Rel X' M' := by
  obtain ⟨⟨hRD, hBD⟩, _⟩ := id h
  obtain ⟨ns, ord, hs, h20, ho, h1, h5⟩ := dial_n hBD
  rcases st_cases N hRD hs h20 a with ⟨i, hi, rfl, x1, m1⟩ | ⟨x1, m1⟩
  · have eX := gaX (N := N) (-1) (by omega) hRD hBD hBD.2.2.1 ho h1 h5 hs h20 hi
    have eM := goS (N := N) (σ := M) (-1) (show i < 20 by omega) (by omega) (M.1 1) ho h5 hs h20 DM_rf
    have hlen := ev_len (M := M) (i := i) (m := M.1 1) (o := oscS M i (M.1 1)) h5 h20
    have hpos : ∀ e, e ∈ ev M i (M.1 1) (oscS M i (M.1 1)) ord ns → ¬ wtS M e ≤ -1 := fun e he => wt_pos hBD h5 hs h20 he
    have hwl := fun L hL => worst_loop (N := N) (M := M) (i := i) (by omega) (by omega) ho h5 hs h20 (L := L) hL
    have hgo : ∀ k : Nat, k < 100000 → ∀ s : St, DM s M → fM_goSpurs N s (nI i) (M.1 1) (nI k) = some ((ev M i (M.1 1) (oscS M i (M.1 1)) ord ns).foldl (stM (nI k)) (0, s)) := fun k hk s hd => goS (nI k) (show i < 20 by omega) (by omega) (M.1 1) ho h5 hs h20 hd
    have hmem : ∀ e, e ∈ ev M i (M.1 1) (oscS M i (M.1 1)) ord ns → ∀ s : St, s.2 = M.2 → fM_weightAtHand N (recM s e) = some (wtS M e) := fun e he s hs => wt_M h5 h20 he hs
    generalize hLe : ev M i (M.1 1) (oscS M i (M.1 1)) ord ns = L at *
    have c1 : (L.foldl (stX M) (bgS X (-1))).1 2 = nI (0 + L.length) := fX_cnt (M := M) L 0 (bgS X (-1)) rfl
    have c2 : (L.foldl (stM (-1)) (0, M)).1 = nI (0 + L.length) := fM_cnt (-1) L 0 M
    have c4 : (L.foldl (stX M) (bgS X (-1))).1 4 = hvF M L 0 (-1) (-1) := hv_X L 0 (bgS X (-1)) rfl
    have hRX : Rel (L.foldl (stX M) (bgS X (-1))) M := Rel_DX h (DX_fold _ _ DX_bg)
    have hd0 : DM (L.foldl (stM (-1)) (0, M)).2 M := DM_fold _ _ DM_rf
    rw [Nat.zero_add] at c1 c2
    have eX' : fX1_worstOf N X (nI i) = some (if nI L.length = 0 then -4 else hvF M L 0 (-1) (-1), L.foldl (stX M) (bgS X (-1))) := by
      simp only [fX1_worstOf, mid_X hRD, bd1, eX, fX4_number, c1, fX4_heaviest, c4]
      by_cases c : nI L.length = 0
      · rw [if_pos c, if_pos c]
      · rw [if_neg c, if_neg c]
    have eM' : fM_worst N M (nI i) = fM_worst_L30 N (nI i) (nI L.length) N (-4) 0 (nI 0) (L.foldl (stM (-1)) (0, M)).2 := by
      rw [fM_worst, m1]
      simp only [bd1]
      rw [if_neg (by decide), eM]
      simp only [bd2]
      rw [c2]
      rfl
    obtain ⟨N', hN'⟩ : ∃ z, N = z + 1 := ⟨N - 1, by omega⟩
    cases hL2 : L with
    | nil =>
      refine ⟨-4, L.foldl (stX M) (bgS X (-1)), (L.foldl (stM (-1)) (0, M)).2, ?_, ?_, Rel_DM hRX hd0⟩
      · have : nI L.length = 0 := by rw [hL2]; rfl
        rw [if_pos this] at eX'
        simp [fX6_worst, x1, bd1, bd2, eX']
      · rw [eM']
        conv => lhs; rw [show fM_worst_L30 N (nI i) (nI L.length) N (-4) 0 (nI 0) (L.foldl (stM (-1)) (0, M)).2 = fM_worst_L30 N (nI i) (nI L.length) (N' + 1) (-4) 0 (nI 0) (L.foldl (stM (-1)) (0, M)).2 by rw [← hN']]
        rw [fM_worst_L30.eq_2, if_pos (by rw [hL2]; exact nI_le (by decide) (by decide))]
    | cons e l =>
      have hl0 : 0 < L.length := by rw [hL2]; exact Nat.succ_pos _
      have hne : ¬ nI L.length = 0 := nI_ne0 hl0 (by omega)
      have he0 : L[0]? = some e := by rw [hL2]; rfl
      have hmm : e ∈ L := List.mem_of_getElem? he0
      have hp := hpos e hmm
      have ehv : hvF M L 0 (-1) (-1) = hvF M (L.drop 1) 1 (nI 0) (wtS M e) := by
        rw [hL2]
        show (if wtS M e ≤ -1 then _ else _) = _
        rw [if_neg hp]
        rfl
      have fm := fM_at (k := 0) (e := e) (by omega) L 0 (L.foldl (stM (-1)) (0, M)).2 (by omega) (by omega) (by simpa using he0)
      have fm' : (L.foldl (stM (nI 0)) (0, (L.foldl (stM (-1)) (0, M)).2)).2 = recM (L.foldl (stM (-1)) (0, M)).2 e := fm
      have hw := hmem e hmm (L.foldl (stM (-1)) (0, M)).2 hd0.2
      obtain ⟨s', hs', hds⟩ := hwl L rfl hlen (L.length - 1) 1 N' (nI 0) (wtS M e) (recM (L.foldl (stM (-1)) (0, M)).2 e) (by omega) (by omega) (by decide) (DM_rec hd0)
      refine ⟨hvF M L 0 (-1) (-1), L.foldl (stX M) (bgS X (-1)), s', ?_, ?_, Rel_DM hRX hds⟩
      · rw [if_neg hne] at eX'
        simp [fX6_worst, x1, bd1, bd2, eX']
      · rw [eM', ehv, ← hs']
        conv => lhs; rw [show fM_worst_L30 N (nI i) (nI L.length) N (-4) 0 (nI 0) (L.foldl (stM (-1)) (0, M)).2 = fM_worst_L30 N (nI i) (nI L.length) (N' + 1) (-4) 0 (nI 0) (L.foldl (stM (-1)) (0, M)).2 by rw [← hN']]
        rw [fM_worst_L30.eq_2, if_neg (nI_ge hl0 (by omega)), hd0.1 1 (by decide), hgo 0 (by decide) _ hd0]
        simp only [bd2, fm']
        rw [if_pos (by decide), hw]
        rfl
  · refine ⟨-1, X, M, ?_, ?_, h⟩
    · simp [fX6_worst, x1, bd1]
    · simp [fM_worst, m1, bd1]
end
