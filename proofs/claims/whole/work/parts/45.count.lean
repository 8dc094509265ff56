/-! count -/
section
variable {N : Nat} {M X : St}
def cuS (M : St) (ord ns : Nat) : Nat → Nat → Int32 → Int32
  | 0, _, a => a
  | d + 1, i, a => cuS M ord ns d (i + 1) (a + nI (ev M i (M.1 1) (oscS M i (M.1 1)) ord ns).length)
def cuR (M : St) (w a : Int32) : Int32 := if w = 0 then M.1 0 else if w = 1 then a else if w = 2 then M.1 7 else if w = 3 then M.1 8 else if w = 4 then M.1 9 else if w = 5 then M.1 10 else if w = 6 then M.1 11 else -1
theorem cu_M (w : Int32) {ord ns : Nat} (hN : 100 ≤ N) (ho : M.1 3 = nI ord) (h5 : ord ≤ 5) (hs : M.1 0 = nI ns) (h20 : ns ≤ 20) : ∀ (d i n : Nat) (a : Int32) (s : St), i + d = ns → d < n → DM s M → ∃ s', fM_count_L4 N w n a (nI i) s = some (cuR M w (cuS M ord ns d i a), s') ∧ DM s' M := by
  intro d
  induction d with
  | zero =>
    intro i n a s hi hn h
    obtain ⟨n, rfl⟩ : ∃ z, n = z + 1 := ⟨n - 1, by omega⟩
    refine ⟨s, ?_, h⟩
    rw [fM_count_L4.eq_2, h.1 0 (by decide), hs, if_pos (nI_le (by omega) (by omega)), h.1 7 (by decide), h.1 8 (by decide), h.1 9 (by decide), h.1 10 (by decide), h.1 11 (by decide), ← hs]
    unfold cuR cuS
    repeat (first | rfl | split)
  | succ d ih =>
    intro i n a s hi hn h
    obtain ⟨n, rfl⟩ : ∃ z, n = z + 1 := ⟨n - 1, by omega⟩
    have eM := goS (N := N) (σ := s) (-1) (show i < 20 by omega) hN (M.1 1) ho h5 hs h20 h
    have c2 : ((ev M i (M.1 1) (oscS M i (M.1 1)) ord ns).foldl (stM (-1)) (0, s)).1 = nI (0 + (ev M i (M.1 1) (oscS M i (M.1 1)) ord ns).length) := fM_cnt (-1) _ 0 s
    rw [Nat.zero_add] at c2
    rw [fM_count_L4.eq_2, h.1 0 (by decide), hs, if_neg (nI_ge (by omega) (by omega)), h.1 1 (by decide), eM, nI_1]
    simp only [bd2, c2]
    exact ih (i + 1) n _ _ (by omega) (by omega) (DM_fold _ _ h)
theorem cu_X {ord ns : Nat} (hN : 100 ≤ N) (hRD : RD X M) (hB : BD M) (ho : M.1 3 = nI ord) (h1 : 1 ≤ ord) (h5 : ord ≤ 5) (hs : M.1 0 = nI ns) (h20 : ns ≤ 20) : ∀ (d i n : Nat) (a : Int32) (s : St), i + d = ns → d < n → DX s X → ∃ s', fX1_spursOfAll_L4 N n a (nI i) s = some (cuS M ord ns d i a, s') ∧ DX s' X := by
  intro d
  induction d with
  | zero =>
    intro i n a s hi hn h
    obtain ⟨n, rfl⟩ : ∃ z, n = z + 1 := ⟨n - 1, by omega⟩
    refine ⟨s, ?_, h⟩
    rw [fX1_spursOfAll_L4.eq_2, h.1 0 (Or.inl rfl), hRD.1, hs, if_pos (nI_le (by omega) (by omega))]
    rfl
  | succ d ih =>
    intro i n a s hi hn h
    obtain ⟨n, rfl⟩ : ∃ z, n = z + 1 := ⟨n - 1, by omega⟩
    have eX := gaX (N := N) (X := s) (-1) hN (RD_DX hRD h) hB hB.2.2.1 ho h1 h5 hs h20 (show i < ns by omega)
    have c1 : ((ev M i (M.1 1) (oscS M i (M.1 1)) ord ns).foldl (stX M) (bgS s (-1))).1 2 = nI (0 + (ev M i (M.1 1) (oscS M i (M.1 1)) ord ns).length) := fX_cnt (M := M) _ 0 (bgS s (-1)) rfl
    rw [Nat.zero_add] at c1
    have e2 : fX1_spursOf N s (nI i) = some (nI (ev M i (M.1 1) (oscS M i (M.1 1)) ord ns).length, (ev M i (M.1 1) (oscS M i (M.1 1)) ord ns).foldl (stX M) (bgS s (-1))) := by
      simp only [fX1_spursOf, mid_X (RD_DX hRD h), bd1, eX, fX4_number, c1]
    rw [fX1_spursOfAll_L4.eq_2, h.1 0 (Or.inl rfl), hRD.1, hs, if_neg (nI_ge (by omega) (by omega)), e2, nI_1]
    simp only [bd2]
    exact ih (i + 1) n _ _ (by omega) (by omega) (DX_tr (DX_fold _ _ DX_bg) h)
theorem op_count (w : Int32) (hN : 100 ≤ N) (h : Rel X M) : ∃ r X' M', fX6_count N X w = some (r, X') ∧ fM_count N M w = some (r, M') ∧ Rel X' M' := by
  obtain ⟨⟨hRD, hBD⟩, ⟨hRT, hBT, hTC⟩, ⟨hRB, hBB⟩, ⟨hRF, hBF⟩⟩ := id h
  obtain ⟨ns, ord, hs, h20, ho, h1, h5⟩ := dial_n hBD
  obtain ⟨M', eM, dM⟩ := cu_M (N := N) w hN ho h5 hs h20 ns 0 N 0 M (by omega) (by omega) DM_rf
  have eM' : fM_count N M w = some (cuR M w (cuS M ord ns ns 0 0), M') := eM
  by_cases c1 : w = 1
  · obtain ⟨X', eX, dX⟩ := cu_X (N := N) hN hRD hBD ho h1 h5 hs h20 ns 0 N 0 X (by omega) (by omega) DX_rf
    have eX' : fX1_spursOfAll N X = some (cuS M ord ns ns 0 0, X') := eX
    refine ⟨cuS M ord ns ns 0 0, X', M', ?_, ?_, Rel_DM (Rel_DX h dX) dM⟩
    · subst c1
      simp [fX6_count, bd2, eX']
    · rw [eM', c1]
      rfl
  · refine ⟨cuR M w 0, X, M', ?_, ?_, Rel_DM h dM⟩
    · unfold fX6_count cuR
      rw [if_neg c1, if_neg c1]
      simp only [fX1_stations, fX5_points, fX0_sets, fX0_lines, fX2_faults, fX2_tests, bd1, hRD.1, hRT.2.2.1, hRB.1, hRB.2.1, hRF.1, hRF.2.1]
      repeat (first | rfl | split)
    · rw [eM']
      unfold cuR
      rw [if_neg c1, if_neg c1]
end
