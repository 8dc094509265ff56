/-! calls of the plan -/
section
variable {N : Nat} {M X : St}
theorem dial_n (h : BD M) : ∃ ns ord : Nat, M.1 0 = nI ns ∧ ns ≤ 20 ∧ M.1 3 = nI ord ∧ 1 ≤ ord ∧ ord ≤ 5 := by
  obtain ⟨n, e, a1, a2⟩ := BIn h.1 (by decide)
  obtain ⟨o, e2, b1, b2⟩ := BIn h.2.2.2.2.1 (by decide)
  exact ⟨n, o, e, by omega, e2, by omega, by omega⟩
theorem st_cases (N : Nat) (hRD : RD X M) {ns : Nat} (hs : M.1 0 = nI ns) (h20 : ns ≤ 20) (a : Int32) : (∃ i : Nat, i < ns ∧ a = nI i ∧ fX1_hasStation N X a = some 1 ∧ fM_isStation N M a = some 1) ∨ (fX1_hasStation N X a = some 0 ∧ fM_isStation N M a = some 0) := by
  have e1 : (nI ns - 1).toInt = (ns : Int) - 1 := pk_sub_toInt (a := ns) (b := 1) (by omega) (by decide)
  have e2 : (nI ns).toInt = (ns : Int) := nI_toInt (by omega)
  by_cases c : 0 ≤ a.toInt ∧ a.toInt < (ns : Int)
  · left
    obtain ⟨i, rfl, i1, i2⟩ := BIn (x := a) (lo := 0) (hi := ns - 1) ⟨c.1, by omega⟩ (by decide)
    refine ⟨i, by omega, rfl, ?_, ?_⟩
    · have w : fM_within N (nI i) 0 (X.1 0 - 1) = some 1 := by
        rw [hRD.1, hs]
        exact wi1 (by simp only [Int32.reduceToInt]; omega) (by rw [e1]; omega)
      simp [fX1_hasStation, wX_M, w, bd1, bz]
    · unfold fM_isStation
      rw [if_neg (nI_pos (by omega)), hs, if_neg (nI_ge (by omega) (by omega))]
  · right
    constructor
    · have w : fM_within N a 0 (X.1 0 - 1) = some 0 := by
        rw [hRD.1, hs]
        exact wi0 (by rw [e1]; simp only [Int32.reduceToInt]; omega)
      simp [fX1_hasStation, wX_M, w, bd1, bz]
    · unfold fM_isStation
      by_cases c2 : a < 0
      · rw [if_pos c2]
      · rw [if_neg c2, hs, if_pos]
        have c3 : ¬ a.toInt < 0 := fun z => c2 (Int32.lt_iff_toInt_lt.mpr (by simpa using z))
        exact Int32.le_iff_toInt_le.mpr (by rw [e2]; omega)
theorem mid_X (hRD : RD X M) : fX1_middle N X = some (M.1 1) := by
  have : X.2 2 (0 : Int32).toNatClampNeg = M.1 1 := hRD.2.2.2.1
  simp only [fX1_middle, this]
theorem op_oscillator (a : Int32) (h : Rel X M) : ∃ r X' M', lf X (fX6_oscillator N X a) = some (r, X') ∧ lf M (fM_oscillator N M a) = some (r, M') ∧ Rel X' M' := by
  obtain ⟨⟨hRD, hBD⟩, _⟩ := id h
  obtain ⟨ns, ord, hs, h20, _⟩ := dial_n hBD
  rcases st_cases N hRD hs h20 a with ⟨i, hi, rfl, x1, m1⟩ | ⟨x1, m1⟩
  · refine ⟨oscS M i (M.1 1), X, M, ?_, ?_, h⟩
    · simp [fX6_oscillator, x1, bd1, mid_X hRD, osc_X hRD DX_rf (show i < 20 by omega), lf]
    · simp [fM_oscillator, m1, bd1, osc_M DM_rf (show i < 20 by omega), lf]
  · refine ⟨-2000000000, X, M, ?_, ?_, h⟩
    · simp [fX6_oscillator, x1, bd1, lf]
    · simp [fM_oscillator, m1, bd1, lf]
theorem op_spurs (a : Int32) (hN : 100 ≤ N) (h : Rel X M) : ∃ r X' M', fX6_spurs N X a = some (r, X') ∧ fM_spurs N M a = some (r, M') ∧ Rel X' M' := by
  obtain ⟨⟨hRD, hBD⟩, _⟩ := id h
  obtain ⟨ns, ord, hs, h20, ho, h1, h5⟩ := dial_n hBD
  rcases st_cases N hRD hs h20 a with ⟨i, hi, rfl, x1, m1⟩ | ⟨x1, m1⟩
  · have eX := gaX (N := N) (-1) hN hRD hBD hBD.2.2.1 ho h1 h5 hs h20 hi
    have eM := goS (N := N) (σ := M) (-1) (show i < 20 by omega) hN (M.1 1) ho h5 hs h20 DM_rf
    have c1 := fX_cnt (M := M) (ev M i (M.1 1) (oscS M i (M.1 1)) ord ns) 0 (bgS X (-1)) rfl
    have c2 := fM_cnt (-1) (ev M i (M.1 1) (oscS M i (M.1 1)) ord ns) 0 M
    have eX' : fX1_spursOf N X (nI i) = some (nI (0 + (ev M i (M.1 1) (oscS M i (M.1 1)) ord ns).length), (ev M i (M.1 1) (oscS M i (M.1 1)) ord ns).foldl (stX M) (bgS X (-1))) := by
      simp only [fX1_spursOf, mid_X hRD, bd1, eX, fX4_number, c1]
    refine ⟨nI (0 + (ev M i (M.1 1) (oscS M i (M.1 1)) ord ns).length), (ev M i (M.1 1) (oscS M i (M.1 1)) ord ns).foldl (stX M) (bgS X (-1)), ((ev M i (M.1 1) (oscS M i (M.1 1)) ord ns).foldl (stM (-1)) (0, M)).2, ?_, ?_, Rel_DM (Rel_DX h (DX_fold _ _ DX_bg)) (DM_fold _ _ DM_rf)⟩
    · simp [fX6_spurs, x1, bd1, bd2, eX']
    · have c2' : ((ev M i (M.1 1) (oscS M i (M.1 1)) ord ns).foldl (stM (-1)) (0, M)).1 = nI (0 + (ev M i (M.1 1) (oscS M i (M.1 1)) ord ns).length) := c2
      rw [fM_spurs, m1]
      simp only [bd1]
      rw [if_neg (by decide), eM]
      simp only [bd2]
      rw [← c2']
  · refine ⟨-1, X, M, ?_, ?_, h⟩
    · simp [fX6_spurs, x1, bd1]
    · simp [fM_spurs, m1, bd1]
theorem wt_M {i ord ns : Nat} {m o : Int32} {e : E4} {s : St} (h5 : ord ≤ 5) (h20 : ns ≤ 20) (he : e ∈ ev M i m o ord ns) (hs : s.2 = M.2) : fM_weightAtHand N (recM s e) = some (wtS M e) := by
  obtain ⟨j, p, q, hj, p1, p2, q1, q2, e1, e2, e3⟩ := ev_mem he
  have hjI : (nI j).toInt = (j : Int) := nI_toInt (by omega)
  have r13 : (recM s e).1 13 = e.1 := rfl
  have r14 : (recM s e).1 14 = e.2.1 := rfl
  have r15 : (recM s e).1 15 = e.2.2.1 := rfl
  have r2 : (recM s e).2 = M.2 := hs
  have hnz : ¬ (nI p * nI q).toInt = 0 := by
    have b1 : p * q ≤ 5 * 5 := Nat.mul_le_mul (by omega) (by omega)
    have b2 : 0 < p * q := Nat.mul_pos (by omega) (by omega)
    rw [pk_mul, nI_toInt (by omega)]
    omega
  unfold fM_weightAtHand wtS
  rw [r13, r14, r15, r2, e1, e2, e3, gi_ok (by omega) (by omega), nz_ok hnz]
theorem op_spur (a k w : Int32) (hN : 100 ≤ N) (h : Rel X M) : ∃ r X' M', fX6_spur N X a k w = some (r, X') ∧ fM_spur N M a k w = some (r, M') ∧ Rel X' M' := by
  obtain ⟨⟨hRD, hBD⟩, _⟩ := id h
  obtain ⟨ns, ord, hs, h20, ho, h1, h5⟩ := dial_n hBD
  rcases st_cases N hRD hs h20 a with ⟨i, hi, rfl, x1, m1⟩ | ⟨x1, m1⟩
  · by_cases ck : k < 0
    · refine ⟨-1, X, M, ?_, ?_, h⟩
      · simp [fX6_spur, x1, bd1, bd2, fX1_ofSpur, ck]
      · simp [fM_spur, m1, bd1, ck]
    · rcases within_cases N w 0 4 with ⟨w1, v1⟩ | ⟨w1, v1⟩
      · have eX := gaX (N := N) k hN hRD hBD hBD.2.2.1 ho h1 h5 hs h20 hi
        have eM := goS (N := N) (σ := M) k (show i < 20 by omega) hN (M.1 1) ho h5 hs h20 DM_rf
        have hlen := ev_len (M := M) (i := i) (m := M.1 1) (o := oscS M i (M.1 1)) h5 h20
        have hmem : ∀ e, e ∈ ev M i (M.1 1) (oscS M i (M.1 1)) ord ns → ∀ s : St, s.2 = M.2 → fM_weightAtHand N (recM s e) = some (wtS M e) := fun e he s hs => wt_M h5 h20 he hs
        generalize ev M i (M.1 1) (oscS M i (M.1 1)) ord ns = L at *
        have c1 : (L.foldl (stX M) (bgS X k)).1 2 = nI (0 + L.length) := fX_cnt (M := M) L 0 (bgS X k) rfl
        have c2 : (L.foldl (stM k) (0, M)).1 = nI (0 + L.length) := fM_cnt k L 0 M
        have hR' : Rel (L.foldl (stX M) (bgS X k)) (L.foldl (stM k) (0, M)).2 := Rel_DM (Rel_DX h (DX_fold _ _ DX_bg)) (DM_fold _ _ DM_rf)
        have eM' : fM_goSpurs N M (nI i) (M.1 1) k = some (nI (0 + L.length), (L.foldl (stM k) (0, M)).2) := by rw [eM, ← c2]
        by_cases cl : k < nI (0 + L.length)
        · have ck0 : 0 ≤ k.toInt := by
            have : ¬ k.toInt < 0 := fun z => ck (Int32.lt_iff_toInt_lt.mpr (by simpa using z))
            omega
          have cl' := Int32.lt_iff_toInt_lt.mp cl
          rw [nI_toInt (by omega)] at cl'
          obtain ⟨kk, rfl, k1, k2⟩ := BIn (x := k) (lo := 0) (hi := 2000) ⟨ck0, by omega⟩ (by decide)
          rw [nI_toInt (by omega)] at cl'
          have hkl : kk < L.length := by omega
          obtain ⟨e, he⟩ : ∃ e, L[kk]? = some e := ⟨L[kk], List.getElem?_eq_getElem hkl⟩
          have fx := fX_at (M := M) (k := kk) (e := e) L 0 (bgS X (nI kk)) rfl rfl (by omega) (by omega) (by omega) (by simpa using he)
          have fm := fM_at (k := kk) (e := e) (by omega) L 0 M (by omega) (by omega) (by simpa using he)
          have fm' : (L.foldl (stM (nI kk)) (0, M)).2 = recM M e := fm
          have hw := hmem e (List.mem_of_getElem? he) M rfl
          have ncl : ¬ nI (0 + L.length) ≤ nI kk := Int32.not_le.mpr cl
          have fact : ∀ (z : Int32) (v : Int32), fM_within N z 0 4 = some 1 → BI z 0 4 → (L.foldl (stX M) (bgS X (nI kk))).2 3 z.toNatClampNeg = v → fX6_spur N X (nI i) (nI kk) z = some (v, L.foldl (stX M) (bgS X (nI kk))) := fun z v hz hb hv => by
            have g : gi z 5 (some ((L.foldl (stX M) (bgS X (nI kk))).2 3 z.toNatClampNeg)) = some ((L.foldl (stX M) (bgS X (nI kk))).2 3 z.toNatClampNeg) := gi_ok hb.1 (by unfold BI at hb; omega)
            have e1 : fX4_factOfWanted N (L.foldl (stX M) (bgS X (nI kk))) z = some v := by
              simp only [fX4_factOfWanted, wX_M, hz, bd1]
              rw [if_neg (by decide), g, hv]
            have e2 : fX1_ofSpur N X (nI i) (nI kk) z = some (v, L.foldl (stX M) (bgS X (nI kk))) := by
              rw [fX1_ofSpur, if_neg ck, wX_M, hz]
              simp only [bd1, mid_X hRD, eX, fX4_number, c1]
              rw [if_neg (by decide), if_neg ncl, e1]
            simp [fX6_spur, x1, bd1, bd2, e2]
          have mm : ∀ (z : Int32), fM_within N z 0 4 = some 1 → fM_spur N M (nI i) (nI kk) z = (if z = 0 then some (e.1, recM M e) else if z = 1 then some (e.2.1, recM M e) else if z = 2 then some (e.2.2.1, recM M e) else if z = 3 then some (e.2.2.2, recM M e) else some (wtS M e, recM M e)) := fun z hz => by
            rw [fM_spur, m1]
            simp only [bd1]
            rw [if_neg (by decide), if_neg ck, hz]
            simp only
            rw [if_neg (by decide), eM']
            simp only [bd2]
            rw [if_pos cl, fm', hw]
            rfl
          rw [fm'] at hR'
          have v1' : BI w 0 4 := by
            have := v1
            simp only [Int32.reduceToInt] at this
            exact this
          have hcs : w = 0 ∨ w = 1 ∨ w = 2 ∨ w = 3 ∨ w = 4 := by
            unfold BI at v1'
            rcases (show w.toInt = 0 ∨ w.toInt = 1 ∨ w.toInt = 2 ∨ w.toInt = 3 ∨ w.toInt = 4 by omega) with z | z | z | z | z
            · exact Or.inl (i32_ext (by rw [z]; decide))
            · exact Or.inr (Or.inl (i32_ext (by rw [z]; decide)))
            · exact Or.inr (Or.inr (Or.inl (i32_ext (by rw [z]; decide))))
            · exact Or.inr (Or.inr (Or.inr (Or.inl (i32_ext (by rw [z]; decide)))))
            · exact Or.inr (Or.inr (Or.inr (Or.inr (i32_ext (by rw [z]; decide)))))
          rcases hcs with rfl | rfl | rfl | rfl | rfl
          · exact ⟨e.1, _, _, fact 0 _ w1 v1' fx.1, by rw [mm 0 w1]; rfl, hR'⟩
          · exact ⟨e.2.1, _, _, fact 1 _ w1 v1' fx.2.1, by rw [mm 1 w1]; rfl, hR'⟩
          · exact ⟨e.2.2.1, _, _, fact 2 _ w1 v1' fx.2.2.1, by rw [mm 2 w1]; rfl, hR'⟩
          · exact ⟨e.2.2.2, _, _, fact 3 _ w1 v1' fx.2.2.2.1, by rw [mm 3 w1]; rfl, hR'⟩
          · exact ⟨wtS M e, _, _, fact 4 _ w1 v1' fx.2.2.2.2, by rw [mm 4 w1]; rfl, hR'⟩
        · refine ⟨-1, _, _, ?_, ?_, hR'⟩
          · have ncl : nI (0 + L.length) ≤ k := Int32.not_lt.mp cl
            have e2 : fX1_ofSpur N X (nI i) k w = some (-1, L.foldl (stX M) (bgS X k)) := by
              rw [fX1_ofSpur, if_neg ck, wX_M, w1]
              simp only [bd1, mid_X hRD, eX, fX4_number, c1]
              rw [if_neg (by decide), if_pos ncl]
            simp [fX6_spur, x1, bd1, bd2, e2]
          · rw [fM_spur, m1]
            simp only [bd1]
            rw [if_neg (by decide), if_neg ck, w1]
            simp only
            rw [if_neg (by decide), eM']
            simp only [bd2]
            rw [if_neg cl]
      · refine ⟨-1, X, M, ?_, ?_, h⟩
        · simp [fX6_spur, x1, bd1, bd2, fX1_ofSpur, ck, wX_M, w1]
        · simp [fM_spur, m1, bd1, ck, w1]
  · refine ⟨-1, X, M, ?_, ?_, h⟩
    · simp [fX6_spur, x1, bd1]
    · simp [fM_spur, m1, bd1]
end
