/-! turning, rounds, align -/
section
variable {N : Nat} {M X : St}
def BS (M' M : St) : Prop := M'.1 = M.1 ∧ ∀ a : Nat, a ≠ 6 → M'.2 a = M.2 a
theorem BS_rf : BS M M := ⟨rfl, fun _ _ => rfl⟩
theorem BS_tr {A B C : St} (h1 : BS A B) (h2 : BS B C) : BS A C := ⟨h1.1.trans h2.1, fun a ha => (h1.2 a ha).trans (h2.2 a ha)⟩
theorem BS_tM {k j : Nat} {v : Int32} : BS (tM M k j v) M := ⟨rfl, fun _ ha => sA_ne ha⟩
set_option maxHeartbeats 1000000 in
theorem tw_loop {k j : Nat} {st : Int32} (hN : 100 ≤ N) (k10 : k < 10) (hj : j < 6) : ∀ (d c n : Nat) (X M : St), c + d = 30 → d + 1 < n → (k : Int) < (M.1 8).toInt → Rel X M → ∃ (z : Nat) (X' M' : St), z ≤ 30 ∧ fX0_turnWhileLess_L20 N k (nI j) st n (eS M k) (nI c) X = some (nI z, X') ∧ fM_turn_L13 N (nI k) (nI j) st n (nI c) (eS M k) 1 M = some (nI z, M') ∧ Rel X' M' ∧ BS M' M := by
  have hI : (nI (6 * k + j)).toInt = ((6 * k + j : Nat) : Int) := nI_toInt (by omega)
  have g : ∀ x : Option (Int32 × St), gi (nI (6 * k + j)) 60 x = x := fun x => gi_ok (by omega) (by omega)
  intro d
  induction d with
  | zero =>
    intro c n X M hc hn hk h
    obtain ⟨n, rfl⟩ : ∃ z, n = z + 1 := ⟨n - 1, by omega⟩
    have e : c = 30 := by omega
    subst e
    exact ⟨30, X, M, by omega, by rw [fX0_turnWhileLess_L20.eq_2, if_pos (show (30 : Int32) ≤ nI 30 by decide)]; rfl, by rw [fM_turn_L13.eq_2, if_neg (by decide), if_pos (show (30 : Int32) ≤ nI 30 by decide)], h, BS_rf⟩
  | succ d ih =>
    intro c n X M hc hn hk h
    obtain ⟨n, rfl⟩ : ∃ z, n = z + 1 := ⟨n - 1, by omega⟩
    have c30 : ¬ (30 : Int32) ≤ nI c := nI_ge (b := 30) (by omega) (by decide)
    have ev : X.2 (17 + 4 * k) j = M.2 6 (6 * k + j) := (h.2.2.1.1.2.2.2.2 k j hk hj).2.2.1
    have h1 := Rel_tX (M.2 6 (6 * k + j) + st) h hk hj
    have hk1 : (k : Int) < ((tM M k j (M.2 6 (6 * k + j) + st)).1 8).toInt := hk
    obtain ⟨p1, p2, p3⟩ := err_X (N := N) hN h1 hk1
    have eM := err_M (N := N) hN h1.2.1.2.1 k10
    have tx := turn_X (N := N) (st := st) (setsX h hk) hj
    rw [ev] at tx
    have em : sA M 6 (6 * k + j) (M.2 6 (6 * k + j) + st) = tM M k j (M.2 6 (6 * k + j) + st) := rfl
    rw [fX0_turnWhileLess_L20.eq_2, fM_turn_L13.eq_2, if_neg c30, if_neg (by decide), if_neg c30, six k10 hj, g, g, tn_nI (by omega), em, tx, eM]
    simp only [bd1, p1, p2, p3]
    generalize hX1 : tX X k j (M.2 6 (6 * k + j) + st) = X1 at *
    generalize hM1 : tM M k j (M.2 6 (6 * k + j) + st) = M1 at *
    have b1 : BS M1 M := by rw [← hM1]; exact BS_tM
    by_cases cl : eS M1 k < eS M k
    · rw [if_pos cl, if_neg (Int32.not_le.mpr cl), nI_1]
      try rw [if_neg (show ¬ (1 : Int32) = 0 by decide)]
      obtain ⟨z, X', M', hz, q1, q2, q3, q4⟩ := ih (c + 1) n X1 M1 (by omega) (by omega) hk1 h1
      exact ⟨z, X', M', hz, q1, q2, q3, BS_tr q4 b1⟩
    · have cl' := Int32.not_lt.mp cl
      have ev1 : X1.2 (17 + 4 * k) j = M1.2 6 (6 * k + j) := (h1.2.2.1.1.2.2.2.2 k j hk1 hj).2.2.1
      have tx2 := turn_X (N := N) (st := -st) (setsX h1 hk1) hj
      rw [ev1, ← Int32.sub_eq_add_neg] at tx2
      have h2 := Rel_tX (M1.2 6 (6 * k + j) - st) h1 hk1 hj
      rw [if_neg cl, if_pos cl']
      try rw [if_pos (show (0 : Int32) = 0 from rfl)]
      try rw [if_pos trivial]
      rw [g, g, tx2]
      have em2 : sA M1 6 (6 * k + j) (M1.2 6 (6 * k + j) - st) = tM M1 k j (M1.2 6 (6 * k + j) - st) := rfl
      rw [em2]
      obtain ⟨n, rfl⟩ : ∃ z, n = z + 1 := ⟨n - 1, by omega⟩
      exact ⟨c, _, _, by omega, rfl, by rw [fM_turn_L13.eq_2, if_pos rfl], h2, BS_tr BS_tM b1⟩
theorem tw_ok {k j : Nat} {st : Int32} (hN : 100 ≤ N) (k10 : k < 10) (hj : j < 6) (hk : (k : Int) < (M.1 8).toInt) (h : Rel X M) : ∃ (z : Nat) (X' M' : St), z ≤ 30 ∧ fX0_turnWhileLess N k X (nI j) st = some (nI z, X') ∧ fM_turn N M (nI k) (nI j) st = some (nI z, M') ∧ Rel X' M' ∧ BS M' M := by
  obtain ⟨p1, p2, p3⟩ := err_X (N := N) hN h hk
  obtain ⟨z, X', M', hz, q1, q2, q3, q4⟩ := tw_loop (N := N) (st := st) hN k10 hj 30 0 N X M (by omega) (by omega) hk h
  refine ⟨z, X', M', hz, ?_, ?_, q3, q4⟩
  · have q1' : fX0_turnWhileLess_L20 N k (nI j) st N (eS M k) 0 X = some (nI z, X') := q1
    rw [fX0_turnWhileLess, p1]
    simp only [bd1, p2, p3]
    exact q1'
  · have q2' : fM_turn_L13 N (nI k) (nI j) st N 0 (eS M k) 1 M = some (nI z, M') := q2
    rw [fM_turn, err_M hN h.2.1.2.1 k10]
    exact q2'
theorem tl_loop {k : Nat} (hN : 100 ≤ N) (k10 : k < 10) {nl : Nat} (hnl : nl ≤ 8) : ∀ (d i n A : Nat) (X M : St), i + d = nl → d < n → A ≤ 30 * i → M.1 9 = nI nl → (k : Int) < (M.1 8).toInt → Rel X M → ∃ (Z : Nat) (X' M' : St), Z ≤ 30 * nl ∧ fX0_turnByLines_L4 N k n (nI A) (nI i) X = some (nI Z, X') ∧ fM_oneRound_L4 N (nI k) n (nI A) (nI i) M = some (nI Z, M') ∧ Rel X' M' ∧ BS M' M := by
  intro d
  induction d with
  | zero =>
    intro i n A X M hi hn hA h9 hk h
    obtain ⟨n, rfl⟩ : ∃ z, n = z + 1 := ⟨n - 1, by omega⟩
    exact ⟨A, X, M, by omega, by rw [fX0_turnByLines_L4.eq_2, h.2.2.1.1.2.1, h9, if_pos (nI_le (by omega) (by omega))], by rw [fM_oneRound_L4.eq_2, h9, if_pos (nI_le (by omega) (by omega))], h, BS_rf⟩
  | succ d ih =>
    intro i n A X M hi hn hA h9 hk h
    obtain ⟨n, rfl⟩ : ∃ z, n = z + 1 := ⟨n - 1, by omega⟩
    have hiI : (nI i).toInt = (i : Int) := nI_toInt (by omega)
    have g : ∀ x : Option (Int32 × St), gi (nI i) 8 x = x := fun x => gi_ok (by omega) (by omega)
    have hln := h.2.2.1.2.2.2.1 i (by rw [h9, nI_toInt (by omega)]; omega)
    obtain ⟨j, ej, j1, j2⟩ := BIn hln.1 (by decide)
    have hj : j < 6 := by omega
    have e9 : X.2 9 = M.2 7 := h.2.2.1.1.2.2.1
    have e10 : X.2 10 = M.2 8 := h.2.2.1.1.2.2.2.1
    obtain ⟨z, X1, M1, hz, q1, q2, q3, q4⟩ := tw_ok (N := N) (st := M.2 8 i) hN k10 hj hk h
    have hk1 : (k : Int) < (M1.1 8).toInt := by rw [q4.1]; exact hk
    have h91 : M1.1 9 = nI nl := by rw [q4.1]; exact h9
    have e71 : M1.2 7 = M.2 7 := q4.2 7 (by decide)
    have e81 : M1.2 8 = M.2 8 := q4.2 8 (by decide)
    have ex9 : X1.2 9 = M.2 7 := q3.2.2.1.1.2.2.1.trans e71
    have ex10 : X1.2 10 = M.2 8 := q3.2.2.1.1.2.2.2.1.trans e81
    rw [fX0_turnByLines_L4.eq_2, fM_oneRound_L4.eq_2, h.2.2.1.1.2.1, h9, if_neg (nI_ge (by omega) (by omega)), if_neg (nI_ge (by omega) (by omega)), g, g, g, g, tn_nI (by omega), e9, e10, ej, q1, q2, nI_1]
    simp only [bd2]
    by_cases cz : z = 0
    · subst cz
      rw [if_pos (show nI 0 = 0 from rfl), if_pos (show nI 0 ≤ 0 by decide), g, g, g, g, ex9, ex10, e71, e81, ej]
      obtain ⟨z2, X2, M2, hz2, r1, r2, r3, r4⟩ := tw_ok (N := N) (st := -M.2 8 i) hN k10 hj hk1 q3
      rw [r1, r2]
      simp only [nI_add]
      obtain ⟨Z, X', M', hZ, s1, s2, s3, s4⟩ := ih (i + 1) n (A + z2) X2 M2 (by omega) (by omega) (by omega) (by rw [r4.1]; exact h91) (by rw [r4.1]; exact hk1) r3
      exact ⟨Z, X', M', hZ, s1, s2, s3, BS_tr s4 (BS_tr r4 q4)⟩
    · rw [if_neg (nI_ne0 (by omega) (by omega)), if_neg (nI_nle (by omega) (by omega))]
      simp only [nI_add]
      obtain ⟨Z, X', M', hZ, s1, s2, s3, s4⟩ := ih (i + 1) n (A + z) X1 M1 (by omega) (by omega) (by omega) h91 hk1 q3
      exact ⟨Z, X', M', hZ, s1, s2, s3, BS_tr s4 q4⟩
theorem lines_n (h : Rel X M) : ∃ nl : Nat, M.1 9 = nI nl ∧ nl ≤ 8 := by
  obtain ⟨n, e, h1, h2⟩ := BIn h.2.2.1.2.2.1 (by decide)
  exact ⟨n, e, by omega⟩
theorem rd_ok {k nl : Nat} (hN : 100 ≤ N) (k10 : k < 10) (h9 : M.1 9 = nI nl) (hnl : nl ≤ 8) (hk : (k : Int) < (M.1 8).toInt) (h : Rel X M) : ∃ (Z : Nat) (X' M' : St), Z ≤ 240 ∧ fX0_turnByLines N k X = some (nI Z, X') ∧ fM_oneRound N M (nI k) = some (nI Z, M') ∧ Rel X' M' ∧ BS M' M := by
  obtain ⟨Z, X', M', hZ, s1, s2, s3, s4⟩ := tl_loop (N := N) hN k10 hnl nl 0 N 0 X M (by omega) (by omega) (by omega) h9 hk h
  exact ⟨Z, X', M', by omega, s1, s2, s3, s4⟩
theorem op_round (a : Int32) (hN : 100 ≤ N) (h : Rel X M) : ∃ r X' M', fX6_round N X a = some (r, X') ∧ fM_round N M a = some (r, M') ∧ Rel X' M' := by
  rcases set_cases N h a with ⟨k, k10, hk, rfl, x1, m1⟩ | ⟨x1, m1⟩
  · obtain ⟨nl, h9, hnl⟩ := lines_n h
    have e11 : X.1 11 = M.1 9 := h.2.2.1.1.2.1
    by_cases c0 : M.1 9 = 0
    · refine ⟨-3, X, M, ?_, ?_, h⟩
      · simp [fX6_round, fX0_goRound, x1, bd1, bd2, mo, e11, c0]
      · simp [fM_round, m1, bd1, c0]
    · obtain ⟨Z, X', M', hZ, s1, s2, s3, s4⟩ := rd_ok (N := N) hN k10 h9 hnl hk h
      refine ⟨nI Z, X', M', ?_, ?_, s3⟩
      · simp [fX6_round, fX0_goRound, x1, bd1, bd2, mo, e11, c0, s1]
      · simp [fM_round, m1, bd1, bd2, c0, s2]
  · refine ⟨-1, X, M, ?_, ?_, h⟩
    · simp [fX6_round, fX0_goRound, x1, bd1, bd2, mo]
    · simp [fM_round, m1, bd1]
theorem al_loop {k nl : Nat} (hN : 100 ≤ N) (k10 : k < 10) (hnl : nl ≤ 8) : ∀ (d c n : Nat) (X M : St), c + d = 49 → d + 2 < n → M.1 9 = nI nl → (k : Int) < (M.1 8).toInt → Rel X M → ∃ (z : Nat) (X' M' : St), fX0_goRounds_L24 N k n (nI (c + 1)) X = some (nI z, X') ∧ fM_align_L24 N (nI k) n (nI c) 1 M = some (nI z, M') ∧ Rel X' M' := by
  intro d
  induction d with
  | zero =>
    intro c n X M hc hn h9 hk h
    obtain ⟨n, rfl⟩ : ∃ z, n = z + 2 := ⟨n - 2, by omega⟩
    have e : c = 49 := by omega
    subst e
    obtain ⟨Z, X', M', hZ, s1, s2, s3, s4⟩ := rd_ok (N := N) hN k10 h9 hnl hk h
    refine ⟨50, X', M', ?_, ?_, s3⟩
    · rw [fX0_goRounds_L24.eq_2, if_pos (show (50 : Int32) ≤ nI (49 + 1) by decide), s1]
      rfl
    · rw [fM_align_L24.eq_2, if_neg (by decide), if_neg (show ¬ (50 : Int32) ≤ nI 49 by decide), s2]
      simp only [bd2]
      by_cases c2 : nI Z ≤ 0
      · rw [if_pos c2, fM_align_L24.eq_2, if_pos rfl]
        rfl
      · rw [if_neg c2, fM_align_L24.eq_2, if_neg (by decide), if_pos (show (50 : Int32) ≤ nI 49 + 1 by decide)]
        rfl
  | succ d ih =>
    intro c n X M hc hn h9 hk h
    obtain ⟨n, rfl⟩ : ∃ z, n = z + 2 := ⟨n - 2, by omega⟩
    obtain ⟨Z, X', M', hZ, s1, s2, s3, s4⟩ := rd_ok (N := N) hN k10 h9 hnl hk h
    rw [fX0_goRounds_L24.eq_2, fM_align_L24.eq_2, if_neg (show ¬ (50 : Int32) ≤ nI (c + 1) from nI_ge (b := 50) (by omega) (by decide)), if_neg (by decide), if_neg (show ¬ (50 : Int32) ≤ nI c from nI_ge (b := 50) (by omega) (by decide)), s1, s2]
    simp only [bd2, nI_1]
    by_cases cz : Z = 0
    · subst cz
      rw [if_pos (show nI 0 = 0 from rfl), if_pos (show nI 0 ≤ 0 by decide), fM_align_L24.eq_2, if_pos rfl]
      exact ⟨c + 1, X', M', rfl, rfl, s3⟩
    · rw [if_neg (nI_ne0 (by omega) (by omega)), if_neg (nI_nle (by omega) (by omega))]
      exact ih (c + 1) (n + 1) X' M' (by omega) (by omega) (by rw [s4.1]; exact h9) (by rw [s4.1]; exact hk) s3
theorem op_align (a : Int32) (hN : 100 ≤ N) (h : Rel X M) : ∃ r X' M', fX6_align N X a = some (r, X') ∧ fM_align N M a = some (r, M') ∧ Rel X' M' := by
  rcases set_cases N h a with ⟨k, k10, hk, rfl, x1, m1⟩ | ⟨x1, m1⟩
  · obtain ⟨nl, h9, hnl⟩ := lines_n h
    have e11 : X.1 11 = M.1 9 := h.2.2.1.1.2.1
    by_cases c0 : M.1 9 = 0
    · refine ⟨-3, X, M, ?_, ?_, h⟩
      · simp [fX6_align, fX0_goRounds, x1, bd1, bd2, mo, e11, c0]
      · simp [fM_align, m1, bd1, c0]
    · obtain ⟨z, X', M', s1, s2, s3⟩ := al_loop (N := N) hN k10 hnl 49 0 N X M (by omega) (by omega) h9 hk h
      have s1' : fX0_goRounds_L24 N k N 1 X = some (nI z, X') := s1
      have s2' : fM_align_L24 N (nI k) N 0 1 M = some (nI z, M') := s2
      refine ⟨nI z, X', M', ?_, ?_, s3⟩
      · simp [fX6_align, fX0_goRounds, x1, bd1, bd2, mo, e11, c0, s1']
      · simp [fM_align, m1, bd1, c0, s2']
  · refine ⟨-1, X, M, ?_, ?_, h⟩
    · simp [fX6_align, fX0_goRounds, x1, bd1, bd2, mo]
    · simp [fM_align, m1, bd1]
end
