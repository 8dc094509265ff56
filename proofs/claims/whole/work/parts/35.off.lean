/-! sums of errors, and the calls tuned, error, off, mark -/
section
variable {N : Nat} {X M : St}
def sumE (e : Nat → Int32) : Nat → Nat → Int32 → Int32
  | 0, _, a => a
  | d + 1, k, a => sumE e d (k + 1) (a + jabs (e k))
theorem sumE_acc (e : Nat → Int32) : ∀ (d k : Nat) (a : Int32), sumE e d k a = a + sumE e d k 0 := by
  intro d
  induction d with
  | zero => intro k a; exact (Int32.add_zero a).symm
  | succ d ih =>
    intro k a
    show sumE e d (k + 1) (a + jabs (e k)) = a + sumE e d (k + 1) (0 + jabs (e k))
    rw [ih, ih (k + 1) (0 + jabs (e k)), Int32.zero_add, Int32.add_assoc]
/-- the error at the k-th point -/
def erP (M : St) (t u p a b m : Int32) (k : Nat) : Int32 := erS (M.1 2) (sgS (M.1 5) (M.1 6) (M.2 3 k) t a) (osS (M.1 5) (M.1 6) (M.2 3 k) u p b) m
theorem offM_loop {t u p a b m : Int32} (hN : 100 ≤ N) (hB : BT M) (hr : BR t u p a b) {np : Nat} (hnp : M.1 7 = nI np) (h5 : np ≤ 5) : ∀ (d k n : Nat) (acc : Int32), k + d = np → d < n → fM_offWith_L6 N M t u p a b m n acc (nI k) = some (sumE (erP M t u p a b m) d k acc) := by
  intro d
  induction d with
  | zero =>
    intro k n acc hk hn
    obtain ⟨n, rfl⟩ : ∃ z, n = z + 1 := ⟨n - 1, by omega⟩
    rw [fM_offWith_L6.eq_2, if_pos (by rw [hnp]; exact nI_le (by omega) (by omega))]
    rfl
  | succ d ih =>
    intro k n acc hk hn
    obtain ⟨n, rfl⟩ : ∃ z, n = z + 1 := ⟨n - 1, by omega⟩
    have hkI : (nI k).toInt = (k : Int) := nI_toInt (by omega)
    have hpl : BI (M.2 3 k) 0 100 := hB.2.2.2.1 k (by rw [hnp, nI_toInt (by omega)]; omega)
    rw [fM_offWith_L6.eq_2, if_neg (by rw [hnp]; exact nI_ge (by omega) (by omega)), gi_ok (by omega) (by omega), tn_nI (by omega), er_M hN hB hpl hr]
    simp only [bd1, size_eq, nI_1]
    exact ih (k + 1) n _ (by omega) (by omega)
theorem offX_loop {g : Option Nat} {t u p a b m : Int32} (hN : 100 ≤ N) (hRD : RD X M) (hRT : RT X M) (hB : BT M) (hr : BR t u p a b) (hg : gOk g X) (e0 : X.2 (gAi g) 0 = t) (e1 : X.2 (gAi g) 1 = u) (e2 : X.2 (gAi g) 2 = p) (e3 : X.2 (gAi g) 3 = a) (e4 : X.2 (gAi g) 4 = b) (e5 : X.2 (gAi g) 5 = m) {np : Nat} (hnp : M.1 7 = nI np) (h5 : np ≤ 5) : ∀ (d k n : Nat) (acc : Int32), k + d = np → d < n → fX5_errorWith_L15 N g X n acc (nI k) = some (sumE (erP M t u p a b m) d k acc) := by
  have hX8 : X.1 8 = nI np := hRT.2.2.1.trans hnp
  have hX5 : X.2 5 = M.2 3 := hRT.2.2.2.1
  intro d
  induction d with
  | zero =>
    intro k n acc hk hn
    obtain ⟨n, rfl⟩ : ∃ z, n = z + 1 := ⟨n - 1, by omega⟩
    rw [fX5_errorWith_L15.eq_2, if_pos (by rw [hX8]; exact nI_le (by omega) (by omega))]
    rfl
  | succ d ih =>
    intro k n acc hk hn
    obtain ⟨n, rfl⟩ : ∃ z, n = z + 1 := ⟨n - 1, by omega⟩
    have hkI : (nI k).toInt = (k : Int) := nI_toInt (by omega)
    have hpl : BI (M.2 3 k) 0 100 := hB.2.2.2.1 k (by rw [hnp, nI_toInt (by omega)]; omega)
    rw [fX5_errorWith_L15.eq_2, if_neg (by rw [hX8]; exact nI_ge (by omega) (by omega)), gi_ok (by omega) (by omega), tn_nI (by omega), hX5, er_X hN hRD hRT hB hpl hr hg e0 e1 e2 e3 e4 e5]
    simp only [bd1, nI_1]
    exact ih (k + 1) n _ (by omega) (by omega)
theorem points_n (hB : BT M) : ∃ np : Nat, M.1 7 = nI np ∧ np ≤ 5 := by
  obtain ⟨n, e, h1, h2⟩ := BIn hB.2.2.1 (by decide)
  exact ⟨n, e, by omega⟩
theorem offM {t u p a b m : Int32} (hN : 100 ≤ N) (hB : BT M) (hr : BR t u p a b) : fM_offWith N M t u p a b m = some (sumE (erP M t u p a b m) (M.1 7).toNatClampNeg 0 0) := by
  obtain ⟨np, e, h5⟩ := points_n hB
  rw [fM_offWith, e, tn_nI (by omega)]
  exact offM_loop hN hB hr e h5 np 0 N 0 (by omega) (by omega)
theorem gg_ok {α : Type} {g : Option Nat} (hg : gOk g X) (x : Option α) : gg g X x = x := by
  cases g with
  | none => rfl
  | some k =>
    show gk k X x = x
    unfold gk
    exact if_pos (hg k rfl)
theorem offX {g : Option Nat} {t u p a b m bm : Int32} (hN : 100 ≤ N) (hRD : RD X M) (hRT : RT X M) (hB : BT M) (hr : BR t u p a b) (hg : gOk g X) (e0 : X.2 (gAi g) 0 = t) (e1 : X.2 (gAi g) 1 = u) (e2 : X.2 (gAi g) 2 = p) (e3 : X.2 (gAi g) 3 = a) (e4 : X.2 (gAi g) 4 = b) (e5 : X.2 (gAi g) 5 = m) : fX5_errorWith N g X bm = some (10 * jabs (m - bm) + sumE (erP M t u p a b m) (M.1 7).toNatClampNeg 0 0) := by
  obtain ⟨np, e, h5⟩ := points_n hB
  have z5 : X.2 (gAi g) (5 : Int32).toNatClampNeg = m := e5
  rw [fX5_errorWith, gg_ok hg, z5, e, tn_nI (by omega), ← sumE_acc]
  exact offX_loop hN hRD hRT hB hr hg e0 e1 e2 e3 e4 e5 e h5 np 0 N _ (by omega) (by omega)
theorem BR_own (hB : BT M) : BR (M.2 2 0) (M.2 2 1) (M.2 2 2) (M.2 2 3) (M.2 2 4) :=
  ⟨hB.2.2.2.2.2.1 0 (by decide), hB.2.2.2.2.2.1 1 (by decide), hB.2.2.2.2.2.2 2 (by decide) (by decide), hB.2.2.2.2.2.2 3 (by decide) (by decide), hB.2.2.2.2.2.2 4 (by decide) (by decide)⟩
theorem Rel_oP (h : Rel X M) : Rel (oP X) M := by
  obtain ⟨hD, ⟨⟨e0, e1, e2, e3, e4⟩, hBT, hTC⟩, hB, hF⟩ := h
  refine ⟨hD, ⟨⟨e0, e1, e2, e3, fun j hj => ?_⟩, hBT, hTC⟩, ⟨RB_fr hB.1 (fun b hb => sA_hi (by omega)) rfl rfl rfl rfl rfl rfl rfl rfl rfl rfl rfl, hB.2⟩, hF⟩
  show upd (X.2 4) 5 _ j = _
  rw [upd_ne (by omega)]
  exact e4 j hj
theorem oP_row (h : Rel X M) : (oP X).2 4 0 = M.2 2 0 ∧ (oP X).2 4 1 = M.2 2 1 ∧ (oP X).2 4 2 = M.2 2 2 ∧ (oP X).2 4 3 = M.2 2 3 ∧ (oP X).2 4 4 = M.2 2 4 ∧ (oP X).2 4 5 = M.1 1 := by
  obtain ⟨⟨hD, _⟩, ⟨⟨e0, e1, e2, e3, e4⟩, _⟩, _⟩ := h
  exact ⟨e4 0 (by decide), e4 1 (by decide), e4 2 (by decide), e4 3 (by decide), e4 4 (by decide), hD.2.2.2.1⟩
theorem isPlace_X (a : Int32) : fX6_isPlace N a = fM_isPlace N a := rfl
theorem place_cases (N : Nat) (a : Int32) : (fM_isPlace N a = some 1 ∧ BI a 0 100) ∨ (fM_isPlace N a = some 0) := by
  rcases within_cases N a 0 100 with ⟨w, v⟩ | ⟨w, v⟩
  · left
    exact ⟨by simp [fM_isPlace, w, bd1, bz], v⟩
  · right
    simp [fM_isPlace, w, bd1, bz]
theorem op_error (a : Int32) (hN : 100 ≤ N) (h : Rel X M) : ∃ r X' M', fX6_error N X a = some (r, X') ∧ lf M (fM_error N M a) = some (r, M') ∧ Rel X' M' := by
  rcases place_cases N a with ⟨w, v⟩ | w
  · have hR := Rel_oP h
    have hrow := oP_row h
    refine ⟨erS (M.1 2) (sgS (M.1 5) (M.1 6) a (M.2 2 0) (M.2 2 3)) (osS (M.1 5) (M.1 6) a (M.2 2 1) (M.2 2 2) (M.2 2 4)) (M.1 1), oP X, M, ?_, ?_, hR⟩
    · have e := er_X (g := none) hN hR.1.1 hR.2.1.1 hR.2.1.2.1 v (BR_own hR.2.1.2.1) (fun k hk => by cases hk) hrow.1 hrow.2.1 hrow.2.2.1 hrow.2.2.2.1 hrow.2.2.2.2.1 hrow.2.2.2.2.2
      simp [fX6_error, isPlace_X, w, bd1, oP_eq, e]
    · have e := er_M (m := M.1 1) hN hR.2.1.2.1 v (BR_own hR.2.1.2.1)
      have e' : fM_errorAt N M a (M.2 2 (0 : Int32).toNatClampNeg) (M.2 2 (1 : Int32).toNatClampNeg) (M.2 2 (2 : Int32).toNatClampNeg) (M.2 2 (3 : Int32).toNatClampNeg) (M.2 2 (4 : Int32).toNatClampNeg) (M.1 1) = _ := e
      simp only [fM_error, w, bd1, e', lf]
      rfl
  · refine ⟨-2000000000, X, M, ?_, ?_, h⟩
    · simp [fX6_error, isPlace_X, w, bd1]
    · simp [fM_error, w, bd1, lf]
theorem op_off (hN : 100 ≤ N) (h : Rel X M) : ∃ r X' M', fX6_off N X = some (r, X') ∧ lf M (fM_off N M) = some (r, M') ∧ Rel X' M' := by
  have hR := Rel_oP h
  have hrow := oP_row h
  refine ⟨sumE (erP M (M.2 2 0) (M.2 2 1) (M.2 2 2) (M.2 2 3) (M.2 2 4) (M.1 1)) (M.1 7).toNatClampNeg 0 0, oP X, M, ?_, ?_, hR⟩
  · have e := offX (g := none) (bm := M.1 1) hN hR.1.1 hR.2.1.1 hR.2.1.2.1 (BR_own hR.2.1.2.1) (fun k hk => by cases hk) hrow.1 hrow.2.1 hrow.2.2.1 hrow.2.2.2.1 hrow.2.2.2.2.1 hrow.2.2.2.2.2
    have em : fX1_middle N (oP X) = some (M.1 1) := by
      have : (oP X).2 2 (0 : Int32).toNatClampNeg = M.1 1 := hR.1.1.2.2.2.1
      simp only [fX1_middle, this]
    have ez : 10 * jabs (M.1 1 - M.1 1) = 0 := by rw [Int32.sub_self]; decide
    rw [ez, Int32.zero_add] at e
    simp only [fX6_off, oP_eq, bd1, em, e]
  · have e := offM (m := M.1 1) hN hR.2.1.2.1 (BR_own hR.2.1.2.1)
    have e' : fM_offWith N M (M.2 2 (0 : Int32).toNatClampNeg) (M.2 2 (1 : Int32).toNatClampNeg) (M.2 2 (2 : Int32).toNatClampNeg) (M.2 2 (3 : Int32).toNatClampNeg) (M.2 2 (4 : Int32).toNatClampNeg) (M.1 1) = _ := e
    simp only [fM_off, bd1, e', lf]
theorem sg_X {pl : Int32} (hN : 100 ≤ N) (hRT : RT X M) (hB : BT M) (hp : BI pl 0 100) : fX5_signalTuned N X pl = some (sgS (M.1 5) (M.1 6) pl (M.2 2 0) (M.2 2 3)) := by
  have hc := cap_ok hB.1 hB.2.1 hp
  have hr := BR_own hB
  have t1 := (tun_ok hN hr.2.2.2.1 (BI_up (add_BI hc hr.1 (by decide) (by decide)) (by decide) (by decide))).1
  have z0 : X.2 4 (0 : Int32).toNatClampNeg = M.2 2 0 := hRT.2.2.2.2 0 (by decide)
  have z3 : X.2 4 (3 : Int32).toNatClampNeg = M.2 2 3 := hRT.2.2.2.2 3 (by decide)
  simp only [fX5_signalTuned, cap_X hRT, bd1, z0, z3, t1, sgS]
theorem op_tuned (a b : Int32) (hN : 100 ≤ N) (h : Rel X M) : ∃ r X' M', lf X (fX6_tuned N X a b) = some (r, X') ∧ lf M (fM_tuned N M a b) = some (r, M') ∧ Rel X' M' := by
  obtain ⟨⟨hRD, hBD⟩, ⟨hRT, hBT, hTC⟩, hB, hF⟩ := id h
  have hr := BR_own hBT
  rcases place_cases N a with ⟨w, v⟩ | w
  · have hc := cap_ok hBT.1 hBT.2.1 v
    by_cases c0 : b = 0
    · have w2 : fM_within N b 0 2 = some 1 := by rw [c0]; rfl
      refine ⟨sgS (M.1 5) (M.1 6) a (M.2 2 0) (M.2 2 3), X, M, ?_, ?_, h⟩
      · simp [fX6_tuned, isPlace_X, w, bd1, fX5_tunedAt, c0, sg_X hN hRT hBT v, lf]
      · have e' : fM_signalAt N M a (M.2 2 (0 : Int32).toNatClampNeg) (M.2 2 (3 : Int32).toNatClampNeg) = some (sgS (M.1 5) (M.1 6) a (M.2 2 0) (M.2 2 3)) := sg_M hN hBT v hr.1 hr.2.2.2.1
        rw [c0] at w2
        simp only [fM_tuned, w, bd1, c0, w2, e', lf]
        rfl
    · by_cases c1 : b = 1
      · have w2 : fM_within N b 0 2 = some 1 := by rw [c1]; rfl
        refine ⟨osS (M.1 5) (M.1 6) a (M.2 2 1) (M.2 2 2) (M.2 2 4), X, M, ?_, ?_, h⟩
        · have hg1 : BI (capS (M.1 5) (M.1 6) a + M.2 2 1) 0 9999 := BI_up (add_BI hc hr.2.1 (by decide) (by decide)) (by decide) (by decide)
          have hq := pad_ok (N := N) hr.2.2.1 hg1
          have t2 := (tun_ok hN hr.2.2.2.2 hq.2.1).1
          have z1 : X.2 4 (1 : Int32).toNatClampNeg = M.2 2 1 := hRT.2.2.2.2 1 (by decide)
          have z2 : X.2 4 (2 : Int32).toNatClampNeg = M.2 2 2 := hRT.2.2.2.2 2 (by decide)
          have z4 : X.2 4 (4 : Int32).toNatClampNeg = M.2 2 4 := hRT.2.2.2.2 4 (by decide)
          have e2 : fX5_tunedAt N X a 1 = some (osS (M.1 5) (M.1 6) a (M.2 2 1) (M.2 2 2) (M.2 2 4)) := by
            rw [fX5_tunedAt, if_neg (by decide), if_pos rfl, cap_X hRT]
            simp only [bd1, z1, z2, z4, hq.1, t2, osS]
          simp [fX6_tuned, isPlace_X, w, bd1, c1, e2, lf]
        · have e' : fM_oscillatorAt N M a (M.2 2 (1 : Int32).toNatClampNeg) (M.2 2 (2 : Int32).toNatClampNeg) (M.2 2 (4 : Int32).toNatClampNeg) = some (osS (M.1 5) (M.1 6) a (M.2 2 1) (M.2 2 2) (M.2 2 4)) := os_M hN hBT v hr.2.1 hr.2.2.1 hr.2.2.2.2
          rw [c1] at w2
          simp only [fM_tuned, w, bd1, c1, w2, e', lf]
          rfl
      · by_cases c2 : b = 2
        · have w2 : fM_within N b 0 2 = some 1 := by rw [c2]; rfl
          refine ⟨capS (M.1 5) (M.1 6) a, X, M, ?_, ?_, h⟩
          · simp [fX6_tuned, isPlace_X, w, bd1, fX5_tunedAt, c2, cap_X hRT, lf]
          · rw [c2] at w2
            simp only [fM_tuned, w, bd1, c2, w2, fM_gangAt, lf]
            rfl
        · have w2 : fM_within N b 0 2 = some 0 := by
            refine wi0 ?_
            have n0 : ¬ b.toInt = 0 := fun z => c0 (i32_ext (by rw [z]; decide))
            have n1 : ¬ b.toInt = 1 := fun z => c1 (i32_ext (by rw [z]; decide))
            have n2 : ¬ b.toInt = 2 := fun z => c2 (i32_ext (by rw [z]; decide))
            simp only [Int32.reduceToInt]
            omega
          refine ⟨-1, X, M, ?_, ?_, h⟩
          · simp [fX6_tuned, isPlace_X, w, bd1, fX5_tunedAt, c0, c1, c2, lf]
          · simp [fM_tuned, w, bd1, w2, lf]
  · refine ⟨-1, X, M, ?_, ?_, h⟩
    · simp [fX6_tuned, isPlace_X, w, bd1, lf]
    · simp [fM_tuned, w, bd1, lf]
theorem mark_loop {f : Int32} (hN : 100 ≤ N) (hRT : RT X M) (hB : BT M) : ∀ (d k b n n' : Nat), k + d = 101 → b ≤ 100 → d < n → d < n' → ∃ r, fX5_markOf_L16 N X f n (nI b) (jabs (sgS (M.1 5) (M.1 6) (nI b) (M.2 2 0) (M.2 2 3) - f)) (nI k) = some r ∧ fM_mark_L16 N M f n' (nI b) (nI k) = some r := by
  have hr := BR_own hB
  have hs : ∀ pl, BI pl 0 100 → fM_signalAt N M pl (M.2 2 (0 : Int32).toNatClampNeg) (M.2 2 (3 : Int32).toNatClampNeg) = some (sgS (M.1 5) (M.1 6) pl (M.2 2 0) (M.2 2 3)) := fun pl hp => sg_M hN hB hp hr.1 hr.2.2.2.1
  intro d
  induction d with
  | zero =>
    intro k b n n' hk hb hn hn'
    obtain ⟨n, rfl⟩ : ∃ z, n = z + 1 := ⟨n - 1, by omega⟩
    obtain ⟨n', rfl⟩ : ∃ z, n' = z + 1 := ⟨n' - 1, by omega⟩
    have hc : (100 : Int32) < nI k := nI_lt (a := 100) (by omega) (by omega)
    exact ⟨nI b, by rw [fX5_markOf_L16.eq_2, if_pos hc], by rw [fM_mark_L16.eq_2, if_pos hc]⟩
  | succ d ih =>
    intro k b n n' hk hb hn hn'
    obtain ⟨n, rfl⟩ : ∃ z, n = z + 1 := ⟨n - 1, by omega⟩
    obtain ⟨n', rfl⟩ : ∃ z, n' = z + 1 := ⟨n' - 1, by omega⟩
    have hc : ¬ (100 : Int32) < nI k := nI_nlt (b := 100) (a := k) |> fun z => fun w => by
      have h1 := (nI_ltI (a := 100) (b := k) (by decide) (by omega)).mp w
      omega
    have hpk : BI (nI k) 0 100 := BI_nI (by omega) (by omega) (by omega)
    have hpb : BI (nI b) 0 100 := BI_nI (by omega) (by omega) (by omega)
    rw [fX5_markOf_L16.eq_2, if_neg hc, fM_mark_L16.eq_2, if_neg hc, sg_X hN hRT hB hpk, hs _ hpk, hs _ hpb]
    simp only [bd1, size_eq, nI_1]
    by_cases c : jabs (sgS (M.1 5) (M.1 6) (nI b) (M.2 2 0) (M.2 2 3) - f) ≤ jabs (sgS (M.1 5) (M.1 6) (nI k) (M.2 2 0) (M.2 2 3) - f)
    · rw [if_pos c, if_pos c]
      exact ih (k + 1) b n n' (by omega) hb (by omega) (by omega)
    · rw [if_neg c, if_neg c]
      exact ih (k + 1) k n n' (by omega) (by omega) (by omega) (by omega)
theorem op_mark (a : Int32) (hN : 200 ≤ N) (h : Rel X M) : ∃ r X' M', lf X (fX6_mark N X a) = some (r, X') ∧ lf M (fM_mark N M a) = some (r, M') ∧ Rel X' M' := by
  obtain ⟨⟨hRD, hBD⟩, ⟨hRT, hBT, hTC⟩, hB, hF⟩ := id h
  rcases within_cases N a 1 99999 with ⟨w, v⟩ | ⟨w, v⟩
  · have h0 : BI (nI 0) 0 100 := by unfold BI; decide
    obtain ⟨r, r1, r2⟩ := mark_loop (X := X) (M := M) (N := N) (f := a) (by omega) hRT hBT 100 1 0 N N (by omega) (by omega) (by omega) (by omega)
    refine ⟨r, X, M, ?_, ?_, h⟩
    · have e1 : fX5_markOf N X a = some r := by
        have e0 : fX5_signalTuned N X 0 = some (sgS (M.1 5) (M.1 6) (nI 0) (M.2 2 0) (M.2 2 3)) := sg_X (by omega) hRT hBT h0
        rw [fX5_markOf, e0]
        simp only [bd1]
        exact r1
      simp [fX6_mark, wX_M, w, bd1, e1, lf]
    · have e2 : fM_mark_L16 N M a N 0 1 = some r := r2
      simp [fM_mark, w, bd1, e2, lf]
  · refine ⟨-1, X, M, ?_, ?_, h⟩
    · simp [fX6_mark, wX_M, w, bd1, lf]
    · simp [fM_mark, w, bd1, lf]
end
